theorem dX6_init_0 : decode cX6_init 0 = .ok (.aload_n 0, 1) := by decide +kernel
theorem dX6_init_1 : decode cX6_init 1 = .ok (.invokespecial 1, 3) := by decide +kernel
theorem dX6_init_4 : decode cX6_init 4 = .ok (.aload_n 0, 1) := by decide +kernel
theorem dX6_init_5 : decode cX6_init 5 = .ok (.bipush 6, 2) := by decide +kernel
theorem dX6_init_7 : decode cX6_init 7 = .ok (.newarray .int, 2) := by decide +kernel
theorem dX6_init_9 : decode cX6_init 9 = .ok (.putfield 7, 3) := by decide +kernel
theorem dX6_init_12 : decode cX6_init 12 = .ok (.aload_n 0, 1) := by decide +kernel
theorem dX6_init_13 : decode cX6_init 13 = .ok (.bipush 6, 2) := by decide +kernel
theorem dX6_init_15 : decode cX6_init 15 = .ok (.newarray .int, 2) := by decide +kernel
theorem dX6_init_17 : decode cX6_init 17 = .ok (.putfield 13, 3) := by decide +kernel
theorem dX6_init_20 : decode cX6_init 20 = .ok (.aload_n 0, 1) := by decide +kernel
theorem dX6_init_21 : decode cX6_init 21 = .ok (.bipush 6, 2) := by decide +kernel
theorem dX6_init_23 : decode cX6_init 23 = .ok (.newarray .int, 2) := by decide +kernel
theorem dX6_init_25 : decode cX6_init 25 = .ok (.putfield 16, 3) := by decide +kernel
theorem dX6_init_28 : decode cX6_init 28 = .ok (.aload_n 0, 1) := by decide +kernel
theorem dX6_init_29 : decode cX6_init 29 = .ok (.bipush 48, 2) := by decide +kernel
theorem dX6_init_31 : decode cX6_init 31 = .ok (.newarray .int, 2) := by decide +kernel
theorem dX6_init_33 : decode cX6_init 33 = .ok (.putfield 19, 3) := by decide +kernel
theorem dX6_init_36 : decode cX6_init 36 = .ok (.aload_n 0, 1) := by decide +kernel
theorem dX6_init_37 : decode cX6_init 37 = .ok (.sipush 360, 3) := by decide +kernel
theorem dX6_init_40 : decode cX6_init 40 = .ok (.newarray .int, 2) := by decide +kernel
theorem dX6_init_42 : decode cX6_init 42 = .ok (.putfield 22, 3) := by decide +kernel
theorem dX6_init_45 : decode cX6_init 45 = .ok (.aload_n 0, 1) := by decide +kernel
theorem dX6_init_46 : decode cX6_init 46 = .ok (.sipush 360, 3) := by decide +kernel
theorem dX6_init_49 : decode cX6_init 49 = .ok (.newarray .long, 2) := by decide +kernel
theorem dX6_init_51 : decode cX6_init 51 = .ok (.putfield 25, 3) := by decide +kernel
theorem dX6_init_54 : decode cX6_init 54 = .ok (.aload_n 0, 1) := by decide +kernel
theorem dX6_init_55 : decode cX6_init 55 = .ok (.sipush 360, 3) := by decide +kernel
theorem dX6_init_58 : decode cX6_init 58 = .ok (.newarray .int, 2) := by decide +kernel
theorem dX6_init_60 : decode cX6_init 60 = .ok (.putfield 29, 3) := by decide +kernel
theorem dX6_init_63 : decode cX6_init 63 = .ok (.aload_n 0, 1) := by decide +kernel
theorem dX6_init_64 : decode cX6_init 64 = .ok (.sipush 360, 3) := by decide +kernel
theorem dX6_init_67 : decode cX6_init 67 = .ok (.newarray .int, 2) := by decide +kernel
theorem dX6_init_69 : decode cX6_init 69 = .ok (.putfield 32, 3) := by decide +kernel
theorem dX6_init_72 : decode cX6_init 72 = .ok (.aload_n 0, 1) := by decide +kernel
theorem dX6_init_73 : decode cX6_init 73 = .ok (.sipush 360, 3) := by decide +kernel
theorem dX6_init_76 : decode cX6_init 76 = .ok (.newarray .long, 2) := by decide +kernel
theorem dX6_init_78 : decode cX6_init 78 = .ok (.putfield 35, 3) := by decide +kernel
theorem dX6_init_81 : decode cX6_init 81 = .ok (.aload_n 0, 1) := by decide +kernel
theorem dX6_init_82 : decode cX6_init 82 = .ok (.sipush 360, 3) := by decide +kernel
theorem dX6_init_85 : decode cX6_init 85 = .ok (.newarray .long, 2) := by decide +kernel
theorem dX6_init_87 : decode cX6_init 87 = .ok (.putfield 38, 3) := by decide +kernel
theorem dX6_init_90 : decode cX6_init 90 = .ok (.aload_n 0, 1) := by decide +kernel
theorem dX6_init_91 : decode cX6_init 91 = .ok (.bipush 64, 2) := by decide +kernel
theorem dX6_init_93 : decode cX6_init 93 = .ok (.newarray .int, 2) := by decide +kernel
theorem dX6_init_95 : decode cX6_init 95 = .ok (.putfield 41, 3) := by decide +kernel
theorem dX6_init_98 : decode cX6_init 98 = .ok (.aload_n 0, 1) := by decide +kernel
theorem dX6_init_99 : decode cX6_init 99 = .ok (.bipush 64, 2) := by decide +kernel
theorem dX6_init_101 : decode cX6_init 101 = .ok (.newarray .int, 2) := by decide +kernel
theorem dX6_init_103 : decode cX6_init 103 = .ok (.putfield 44, 3) := by decide +kernel
theorem dX6_init_106 : decode cX6_init 106 = .ok (.aload_n 0, 1) := by decide +kernel
theorem dX6_init_107 : decode cX6_init 107 = .ok (.bipush 64, 2) := by decide +kernel
theorem dX6_init_109 : decode cX6_init 109 = .ok (.newarray .int, 2) := by decide +kernel
theorem dX6_init_111 : decode cX6_init 111 = .ok (.putfield 47, 3) := by decide +kernel
theorem dX6_init_114 : decode cX6_init 114 = .ok (.aload_n 0, 1) := by decide +kernel
theorem dX6_init_115 : decode cX6_init 115 = .ok (.sipush 256, 3) := by decide +kernel
theorem dX6_init_118 : decode cX6_init 118 = .ok (.newarray .long, 2) := by decide +kernel
theorem dX6_init_120 : decode cX6_init 120 = .ok (.putfield 50, 3) := by decide +kernel
theorem dX6_init_123 : decode cX6_init 123 = .ok (.aload_n 0, 1) := by decide +kernel
theorem dX6_init_124 : decode cX6_init 124 = .ok (.bipush 64, 2) := by decide +kernel
theorem dX6_init_126 : decode cX6_init 126 = .ok (.newarray .int, 2) := by decide +kernel
theorem dX6_init_128 : decode cX6_init 128 = .ok (.putfield 53, 3) := by decide +kernel
theorem dX6_init_131 : decode cX6_init 131 = .ok (.aload_n 0, 1) := by decide +kernel
theorem dX6_init_132 : decode cX6_init 132 = .ok (.sipush 768, 3) := by decide +kernel
theorem dX6_init_135 : decode cX6_init 135 = .ok (.newarray .int, 2) := by decide +kernel
theorem dX6_init_137 : decode cX6_init 137 = .ok (.putfield 56, 3) := by decide +kernel
theorem dX6_init_140 : decode cX6_init 140 = .ok (.aload_n 0, 1) := by decide +kernel
theorem dX6_init_141 : decode cX6_init 141 = .ok (.sipush 768, 3) := by decide +kernel
theorem dX6_init_144 : decode cX6_init 144 = .ok (.newarray .int, 2) := by decide +kernel
theorem dX6_init_146 : decode cX6_init 146 = .ok (.putfield 59, 3) := by decide +kernel
theorem dX6_init_149 : decode cX6_init 149 = .ok (.aload_n 0, 1) := by decide +kernel
theorem dX6_init_150 : decode cX6_init 150 = .ok (.sipush 768, 3) := by decide +kernel
theorem dX6_init_153 : decode cX6_init 153 = .ok (.newarray .int, 2) := by decide +kernel
theorem dX6_init_155 : decode cX6_init 155 = .ok (.putfield 62, 3) := by decide +kernel
theorem dX6_init_158 : decode cX6_init 158 = .ok (.aload_n 0, 1) := by decide +kernel
theorem dX6_init_159 : decode cX6_init 159 = .ok (.sipush 768, 3) := by decide +kernel
theorem dX6_init_162 : decode cX6_init 162 = .ok (.newarray .long, 2) := by decide +kernel
theorem dX6_init_164 : decode cX6_init 164 = .ok (.putfield 65, 3) := by decide +kernel
theorem dX6_init_167 : decode cX6_init 167 = .ok (.aload_n 0, 1) := by decide +kernel
theorem dX6_init_168 : decode cX6_init 168 = .ok (.sipush 384, 3) := by decide +kernel
theorem dX6_init_171 : decode cX6_init 171 = .ok (.newarray .int, 2) := by decide +kernel
theorem dX6_init_173 : decode cX6_init 173 = .ok (.putfield 68, 3) := by decide +kernel
theorem dX6_init_176 : decode cX6_init 176 = .ok (.aload_n 0, 1) := by decide +kernel
theorem dX6_init_177 : decode cX6_init 177 = .ok (.sipush 384, 3) := by decide +kernel
theorem dX6_init_180 : decode cX6_init 180 = .ok (.newarray .int, 2) := by decide +kernel
theorem dX6_init_182 : decode cX6_init 182 = .ok (.putfield 71, 3) := by decide +kernel
theorem dX6_init_185 : decode cX6_init 185 = .ok (.aload_n 0, 1) := by decide +kernel
theorem dX6_init_186 : decode cX6_init 186 = .ok (.iconst 4, 1) := by decide +kernel
theorem dX6_init_187 : decode cX6_init 187 = .ok (.newarray .boolean, 2) := by decide +kernel
theorem dX6_init_189 : decode cX6_init 189 = .ok (.putfield 74, 3) := by decide +kernel
theorem dX6_init_192 : decode cX6_init 192 = .ok (.aload_n 0, 1) := by decide +kernel
theorem dX6_init_193 : decode cX6_init 193 = .ok (.iconst 4, 1) := by decide +kernel
theorem dX6_init_194 : decode cX6_init 194 = .ok (.newarray .boolean, 2) := by decide +kernel
theorem dX6_init_196 : decode cX6_init 196 = .ok (.putfield 78, 3) := by decide +kernel
theorem dX6_init_199 : decode cX6_init 199 = .ok (.aload_n 0, 1) := by decide +kernel
theorem dX6_init_200 : decode cX6_init 200 = .ok (.sipush 4700, 3) := by decide +kernel
theorem dX6_init_203 : decode cX6_init 203 = .ok (.newarray .boolean, 2) := by decide +kernel
theorem dX6_init_205 : decode cX6_init 205 = .ok (.putfield 81, 3) := by decide +kernel
theorem dX6_init_208 : decode cX6_init 208 = .ok (.aload_n 0, 1) := by decide +kernel
theorem dX6_init_209 : decode cX6_init 209 = .ok (.sipush 4700, 3) := by decide +kernel
theorem dX6_init_212 : decode cX6_init 212 = .ok (.newarray .int, 2) := by decide +kernel
theorem dX6_init_214 : decode cX6_init 214 = .ok (.putfield 84, 3) := by decide +kernel
theorem dX6_init_217 : decode cX6_init 217 = .ok (.aload_n 0, 1) := by decide +kernel
theorem dX6_init_218 : decode cX6_init 218 = .ok (.sipush 4700, 3) := by decide +kernel
theorem dX6_init_221 : decode cX6_init 221 = .ok (.newarray .int, 2) := by decide +kernel
theorem dX6_init_223 : decode cX6_init 223 = .ok (.putfield 87, 3) := by decide +kernel
theorem dX6_init_226 : decode cX6_init 226 = .ok (.aload_n 0, 1) := by decide +kernel
theorem dX6_init_227 : decode cX6_init 227 = .ok (.sipush 4700, 3) := by decide +kernel
theorem dX6_init_230 : decode cX6_init 230 = .ok (.newarray .int, 2) := by decide +kernel
theorem dX6_init_232 : decode cX6_init 232 = .ok (.putfield 90, 3) := by decide +kernel
theorem dX6_init_235 : decode cX6_init 235 = .ok (.aload_n 0, 1) := by decide +kernel
theorem dX6_init_236 : decode cX6_init 236 = .ok (.sipush 4700, 3) := by decide +kernel
theorem dX6_init_239 : decode cX6_init 239 = .ok (.newarray .int, 2) := by decide +kernel
theorem dX6_init_241 : decode cX6_init 241 = .ok (.putfield 93, 3) := by decide +kernel
theorem dX6_init_244 : decode cX6_init 244 = .ok (.aload_n 0, 1) := by decide +kernel
theorem dX6_init_245 : decode cX6_init 245 = .ok (.sipush 4700, 3) := by decide +kernel
theorem dX6_init_248 : decode cX6_init 248 = .ok (.newarray .int, 2) := by decide +kernel
theorem dX6_init_250 : decode cX6_init 250 = .ok (.putfield 96, 3) := by decide +kernel
theorem dX6_init_253 : decode cX6_init 253 = .ok (.aload_n 0, 1) := by decide +kernel
theorem dX6_init_254 : decode cX6_init 254 = .ok (.sipush 4700, 3) := by decide +kernel
theorem dX6_init_257 : decode cX6_init 257 = .ok (.newarray .int, 2) := by decide +kernel
theorem dX6_init_259 : decode cX6_init 259 = .ok (.putfield 99, 3) := by decide +kernel
theorem dX6_init_262 : decode cX6_init 262 = .ok (.aload_n 0, 1) := by decide +kernel
theorem dX6_init_263 : decode cX6_init 263 = .ok (.sipush 4700, 3) := by decide +kernel
theorem dX6_init_266 : decode cX6_init 266 = .ok (.newarray .int, 2) := by decide +kernel
theorem dX6_init_268 : decode cX6_init 268 = .ok (.putfield 102, 3) := by decide +kernel
theorem dX6_init_271 : decode cX6_init 271 = .ok (.aload_n 0, 1) := by decide +kernel
theorem dX6_init_272 : decode cX6_init 272 = .ok (.sipush 4700, 3) := by decide +kernel
theorem dX6_init_275 : decode cX6_init 275 = .ok (.newarray .int, 2) := by decide +kernel
theorem dX6_init_277 : decode cX6_init 277 = .ok (.putfield 105, 3) := by decide +kernel
theorem dX6_init_280 : decode cX6_init 280 = .ok (.aload_n 0, 1) := by decide +kernel
theorem dX6_init_281 : decode cX6_init 281 = .ok (.sipush 4700, 3) := by decide +kernel
theorem dX6_init_284 : decode cX6_init 284 = .ok (.newarray .long, 2) := by decide +kernel
theorem dX6_init_286 : decode cX6_init 286 = .ok (.putfield 108, 3) := by decide +kernel
theorem dX6_init_289 : decode cX6_init 289 = .ok (.aload_n 0, 1) := by decide +kernel
theorem dX6_init_290 : decode cX6_init 290 = .ok (.sipush 4700, 3) := by decide +kernel
theorem dX6_init_293 : decode cX6_init 293 = .ok (.newarray .long, 2) := by decide +kernel
theorem dX6_init_295 : decode cX6_init 295 = .ok (.putfield 111, 3) := by decide +kernel
theorem dX6_init_298 : decode cX6_init 298 = .ok (.aload_n 0, 1) := by decide +kernel
theorem dX6_init_299 : decode cX6_init 299 = .ok (.sipush 18800, 3) := by decide +kernel
theorem dX6_init_302 : decode cX6_init 302 = .ok (.newarray .long, 2) := by decide +kernel
theorem dX6_init_304 : decode cX6_init 304 = .ok (.putfield 114, 3) := by decide +kernel
theorem dX6_init_307 : decode cX6_init 307 = .ok (.aload_n 0, 1) := by decide +kernel
theorem dX6_init_308 : decode cX6_init 308 = .ok (.ldc 117, 2) := by decide +kernel
theorem dX6_init_310 : decode cX6_init 310 = .ok (.newarray .int, 2) := by decide +kernel
theorem dX6_init_312 : decode cX6_init 312 = .ok (.putfield 118, 3) := by decide +kernel
theorem dX6_init_315 : decode cX6_init 315 = .ok (.aload_n 0, 1) := by decide +kernel
theorem dX6_init_316 : decode cX6_init 316 = .ok (.ldc 117, 2) := by decide +kernel
theorem dX6_init_318 : decode cX6_init 318 = .ok (.newarray .int, 2) := by decide +kernel
theorem dX6_init_320 : decode cX6_init 320 = .ok (.putfield 121, 3) := by decide +kernel
theorem dX6_init_323 : decode cX6_init 323 = .ok (.aload_n 0, 1) := by decide +kernel
theorem dX6_init_324 : decode cX6_init 324 = .ok (.ldc 117, 2) := by decide +kernel
theorem dX6_init_326 : decode cX6_init 326 = .ok (.newarray .int, 2) := by decide +kernel
theorem dX6_init_328 : decode cX6_init 328 = .ok (.putfield 124, 3) := by decide +kernel
theorem dX6_init_331 : decode cX6_init 331 = .ok (.aload_n 0, 1) := by decide +kernel
theorem dX6_init_332 : decode cX6_init 332 = .ok (.ldc 117, 2) := by decide +kernel
theorem dX6_init_334 : decode cX6_init 334 = .ok (.newarray .long, 2) := by decide +kernel
theorem dX6_init_336 : decode cX6_init 336 = .ok (.putfield 127, 3) := by decide +kernel
theorem dX6_init_339 : decode cX6_init 339 = .ok (.aload_n 0, 1) := by decide +kernel
theorem dX6_init_340 : decode cX6_init 340 = .ok (.sipush 28200, 3) := by decide +kernel
theorem dX6_init_343 : decode cX6_init 343 = .ok (.newarray .int, 2) := by decide +kernel
theorem dX6_init_345 : decode cX6_init 345 = .ok (.putfield 130, 3) := by decide +kernel
theorem dX6_init_348 : decode cX6_init 348 = .ok (.aload_n 0, 1) := by decide +kernel
theorem dX6_init_349 : decode cX6_init 349 = .ok (.sipush 28200, 3) := by decide +kernel
theorem dX6_init_352 : decode cX6_init 352 = .ok (.newarray .int, 2) := by decide +kernel
theorem dX6_init_354 : decode cX6_init 354 = .ok (.putfield 133, 3) := by decide +kernel
theorem dX6_init_357 : decode cX6_init 357 = .ok (.aload_n 0, 1) := by decide +kernel
theorem dX6_init_358 : decode cX6_init 358 = .ok (.sipush 400, 3) := by decide +kernel
theorem dX6_init_361 : decode cX6_init 361 = .ok (.newarray .int, 2) := by decide +kernel
theorem dX6_init_363 : decode cX6_init 363 = .ok (.putfield 136, 3) := by decide +kernel
theorem dX6_init_366 : decode cX6_init 366 = .ok (.aload_n 0, 1) := by decide +kernel
theorem dX6_init_367 : decode cX6_init 367 = .ok (.sipush 16800, 3) := by decide +kernel
theorem dX6_init_370 : decode cX6_init 370 = .ok (.newarray .int, 2) := by decide +kernel
theorem dX6_init_372 : decode cX6_init 372 = .ok (.putfield 139, 3) := by decide +kernel
theorem dX6_init_375 : decode cX6_init 375 = .ok (.aload_n 0, 1) := by decide +kernel
theorem dX6_init_376 : decode cX6_init 376 = .ok (.iconst 4, 1) := by decide +kernel
theorem dX6_init_377 : decode cX6_init 377 = .ok (.newarray .int, 2) := by decide +kernel
theorem dX6_init_379 : decode cX6_init 379 = .ok (.putfield 142, 3) := by decide +kernel
theorem dX6_init_382 : decode cX6_init 382 = .ok (.aload_n 0, 1) := by decide +kernel
theorem dX6_init_383 : decode cX6_init 383 = .ok (.iload_n 1, 1) := by decide +kernel
theorem dX6_init_384 : decode cX6_init 384 = .ok (.iconst 2, 1) := by decide +kernel
theorem dX6_init_385 : decode cX6_init 385 = .ok (.if_icmp .lt 12, 3) := by decide +kernel
theorem dX6_init_388 : decode cX6_init 388 = .ok (.iload_n 1, 1) := by decide +kernel
theorem dX6_init_389 : decode cX6_init 389 = .ok (.iconst 4, 1) := by decide +kernel
theorem dX6_init_390 : decode cX6_init 390 = .ok (.if_icmp .gt 7, 3) := by decide +kernel
theorem dX6_init_393 : decode cX6_init 393 = .ok (.iload_n 1, 1) := by decide +kernel
theorem dX6_init_394 : decode cX6_init 394 = .ok (.goto 4, 3) := by decide +kernel
theorem dX6_init_397 : decode cX6_init 397 = .ok (.iconst 3, 1) := by decide +kernel
theorem dX6_init_398 : decode cX6_init 398 = .ok (.putfield 145, 3) := by decide +kernel
theorem dX6_init_401 : decode cX6_init 401 = .ok (.aload_n 0, 1) := by decide +kernel
theorem dX6_init_402 : decode cX6_init 402 = .ok (.iload_n 2, 1) := by decide +kernel
theorem dX6_init_403 : decode cX6_init 403 = .ok (.iconst 1, 1) := by decide +kernel
theorem dX6_init_404 : decode cX6_init 404 = .ok (.if_icmp .lt 14, 3) := by decide +kernel
theorem dX6_init_407 : decode cX6_init 407 = .ok (.iload_n 2, 1) := by decide +kernel
theorem dX6_init_408 : decode cX6_init 408 = .ok (.sipush 1000, 3) := by decide +kernel
theorem dX6_init_411 : decode cX6_init 411 = .ok (.if_icmp .gt 7, 3) := by decide +kernel
theorem dX6_init_414 : decode cX6_init 414 = .ok (.iload_n 2, 1) := by decide +kernel
theorem dX6_init_415 : decode cX6_init 415 = .ok (.goto 5, 3) := by decide +kernel
theorem dX6_init_418 : decode cX6_init 418 = .ok (.bipush 50, 2) := by decide +kernel
theorem dX6_init_420 : decode cX6_init 420 = .ok (.putfield 149, 3) := by decide +kernel
theorem dX6_init_423 : decode cX6_init 423 = .ok (.iconst 0, 1) := by decide +kernel
theorem dX6_init_424 : decode cX6_init 424 = .ok (.istore_n 3, 1) := by decide +kernel
theorem dX6_init_425 : decode cX6_init 425 = .ok (.iload_n 3, 1) := by decide +kernel
theorem dX6_init_426 : decode cX6_init 426 = .ok (.bipush 48, 2) := by decide +kernel
theorem dX6_init_428 : decode cX6_init 428 = .ok (.if_icmp .ge 24, 3) := by decide +kernel
theorem dX6_init_431 : decode cX6_init 431 = .ok (.aload_n 0, 1) := by decide +kernel
theorem dX6_init_432 : decode cX6_init 432 = .ok (.getfield 19, 3) := by decide +kernel
theorem dX6_init_435 : decode cX6_init 435 = .ok (.iload_n 3, 1) := by decide +kernel
theorem dX6_init_436 : decode cX6_init 436 = .ok (.iload_n 3, 1) := by decide +kernel
theorem dX6_init_437 : decode cX6_init 437 = .ok (.bipush 8, 2) := by decide +kernel
theorem dX6_init_439 : decode cX6_init 439 = .ok (.irem, 1) := by decide +kernel
theorem dX6_init_440 : decode cX6_init 440 = .ok (.aload_n 0, 1) := by decide +kernel
theorem dX6_init_441 : decode cX6_init 441 = .ok (.getfield 145, 3) := by decide +kernel
theorem dX6_init_444 : decode cX6_init 444 = .ok (.irem, 1) := by decide +kernel
theorem dX6_init_445 : decode cX6_init 445 = .ok (.iastore, 1) := by decide +kernel
theorem dX6_init_446 : decode cX6_init 446 = .ok (.iinc 3 1, 3) := by decide +kernel
theorem dX6_init_449 : decode cX6_init 449 = .ok (.goto (-24), 3) := by decide +kernel
theorem dX6_init_452 : decode cX6_init 452 = .ok (.iconst 0, 1) := by decide +kernel
theorem dX6_init_453 : decode cX6_init 453 = .ok (.istore_n 3, 1) := by decide +kernel
theorem dX6_init_454 : decode cX6_init 454 = .ok (.iload_n 3, 1) := by decide +kernel
theorem dX6_init_455 : decode cX6_init 455 = .ok (.iconst 2, 1) := by decide +kernel
theorem dX6_init_456 : decode cX6_init 456 = .ok (.aload_n 0, 1) := by decide +kernel
theorem dX6_init_457 : decode cX6_init 457 = .ok (.getfield 145, 3) := by decide +kernel
theorem dX6_init_460 : decode cX6_init 460 = .ok (.imul, 1) := by decide +kernel
theorem dX6_init_461 : decode cX6_init 461 = .ok (.if_icmp .ge 117, 3) := by decide +kernel
theorem dX6_init_464 : decode cX6_init 464 = .ok (.iconst 0, 1) := by decide +kernel
theorem dX6_init_465 : decode cX6_init 465 = .ok (.istore 4, 2) := by decide +kernel
theorem dX6_init_467 : decode cX6_init 467 = .ok (.iload 4, 2) := by decide +kernel
theorem dX6_init_469 : decode cX6_init 469 = .ok (.bipush 8, 2) := by decide +kernel
theorem dX6_init_471 : decode cX6_init 471 = .ok (.if_icmp .ge 92, 3) := by decide +kernel
theorem dX6_init_474 : decode cX6_init 474 = .ok (.iload 4, 2) := by decide +kernel
theorem dX6_init_476 : decode cX6_init 476 = .ok (.aload_n 0, 1) := by decide +kernel
theorem dX6_init_477 : decode cX6_init 477 = .ok (.getfield 145, 3) := by decide +kernel
theorem dX6_init_480 : decode cX6_init 480 = .ok (.irem, 1) := by decide +kernel
theorem dX6_init_481 : decode cX6_init 481 = .ok (.iload_n 3, 1) := by decide +kernel
theorem dX6_init_482 : decode cX6_init 482 = .ok (.iconst 2, 1) := by decide +kernel
theorem dX6_init_483 : decode cX6_init 483 = .ok (.idiv, 1) := by decide +kernel
theorem dX6_init_484 : decode cX6_init 484 = .ok (.if_icmp .ne 7, 3) := by decide +kernel
theorem dX6_init_487 : decode cX6_init 487 = .ok (.iconst 1, 1) := by decide +kernel
theorem dX6_init_488 : decode cX6_init 488 = .ok (.goto 4, 3) := by decide +kernel
theorem dX6_init_491 : decode cX6_init 491 = .ok (.iconst 0, 1) := by decide +kernel
theorem dX6_init_492 : decode cX6_init 492 = .ok (.istore 5, 2) := by decide +kernel
theorem dX6_init_494 : decode cX6_init 494 = .ok (.aload_n 0, 1) := by decide +kernel
theorem dX6_init_495 : decode cX6_init 495 = .ok (.getfield 41, 3) := by decide +kernel
theorem dX6_init_498 : decode cX6_init 498 = .ok (.bipush 8, 2) := by decide +kernel
theorem dX6_init_500 : decode cX6_init 500 = .ok (.iload_n 3, 1) := by decide +kernel
theorem dX6_init_501 : decode cX6_init 501 = .ok (.imul, 1) := by decide +kernel
theorem dX6_init_502 : decode cX6_init 502 = .ok (.iload 4, 2) := by decide +kernel
theorem dX6_init_504 : decode cX6_init 504 = .ok (.iadd, 1) := by decide +kernel
theorem dX6_init_505 : decode cX6_init 505 = .ok (.iload 5, 2) := by decide +kernel
theorem dX6_init_507 : decode cX6_init 507 = .ok (.ifCond .eq 7, 3) := by decide +kernel
theorem dX6_init_510 : decode cX6_init 510 = .ok (.iconst 1, 1) := by decide +kernel
theorem dX6_init_511 : decode cX6_init 511 = .ok (.goto 4, 3) := by decide +kernel
theorem dX6_init_514 : decode cX6_init 514 = .ok (.iconst 0, 1) := by decide +kernel
theorem dX6_init_515 : decode cX6_init 515 = .ok (.iastore, 1) := by decide +kernel
theorem dX6_init_516 : decode cX6_init 516 = .ok (.aload_n 0, 1) := by decide +kernel
theorem dX6_init_517 : decode cX6_init 517 = .ok (.getfield 44, 3) := by decide +kernel
theorem dX6_init_520 : decode cX6_init 520 = .ok (.bipush 8, 2) := by decide +kernel
theorem dX6_init_522 : decode cX6_init 522 = .ok (.iload_n 3, 1) := by decide +kernel
theorem dX6_init_523 : decode cX6_init 523 = .ok (.imul, 1) := by decide +kernel
theorem dX6_init_524 : decode cX6_init 524 = .ok (.iload 4, 2) := by decide +kernel
theorem dX6_init_526 : decode cX6_init 526 = .ok (.iadd, 1) := by decide +kernel
theorem dX6_init_527 : decode cX6_init 527 = .ok (.iload 5, 2) := by decide +kernel
theorem dX6_init_529 : decode cX6_init 529 = .ok (.ifCond .eq 7, 3) := by decide +kernel
theorem dX6_init_532 : decode cX6_init 532 = .ok (.iconst 1, 1) := by decide +kernel
theorem dX6_init_533 : decode cX6_init 533 = .ok (.goto 4, 3) := by decide +kernel
theorem dX6_init_536 : decode cX6_init 536 = .ok (.iconst 0, 1) := by decide +kernel
theorem dX6_init_537 : decode cX6_init 537 = .ok (.iastore, 1) := by decide +kernel
theorem dX6_init_538 : decode cX6_init 538 = .ok (.aload_n 0, 1) := by decide +kernel
theorem dX6_init_539 : decode cX6_init 539 = .ok (.getfield 47, 3) := by decide +kernel
theorem dX6_init_542 : decode cX6_init 542 = .ok (.bipush 8, 2) := by decide +kernel
theorem dX6_init_544 : decode cX6_init 544 = .ok (.iload_n 3, 1) := by decide +kernel
theorem dX6_init_545 : decode cX6_init 545 = .ok (.imul, 1) := by decide +kernel
theorem dX6_init_546 : decode cX6_init 546 = .ok (.iload 4, 2) := by decide +kernel
theorem dX6_init_548 : decode cX6_init 548 = .ok (.iadd, 1) := by decide +kernel
theorem dX6_init_549 : decode cX6_init 549 = .ok (.iload 4, 2) := by decide +kernel
theorem dX6_init_551 : decode cX6_init 551 = .ok (.aload_n 0, 1) := by decide +kernel
theorem dX6_init_552 : decode cX6_init 552 = .ok (.getfield 145, 3) := by decide +kernel
theorem dX6_init_555 : decode cX6_init 555 = .ok (.irem, 1) := by decide +kernel
theorem dX6_init_556 : decode cX6_init 556 = .ok (.iastore, 1) := by decide +kernel
theorem dX6_init_557 : decode cX6_init 557 = .ok (.iinc 4 1, 3) := by decide +kernel
theorem dX6_init_560 : decode cX6_init 560 = .ok (.goto (-93), 3) := by decide +kernel
theorem dX6_init_563 : decode cX6_init 563 = .ok (.aload_n 0, 1) := by decide +kernel
theorem dX6_init_564 : decode cX6_init 564 = .ok (.getfield 74, 3) := by decide +kernel
theorem dX6_init_567 : decode cX6_init 567 = .ok (.iload_n 3, 1) := by decide +kernel
theorem dX6_init_568 : decode cX6_init 568 = .ok (.iconst 2, 1) := by decide +kernel
theorem dX6_init_569 : decode cX6_init 569 = .ok (.idiv, 1) := by decide +kernel
theorem dX6_init_570 : decode cX6_init 570 = .ok (.iconst 1, 1) := by decide +kernel
theorem dX6_init_571 : decode cX6_init 571 = .ok (.bastore, 1) := by decide +kernel
theorem dX6_init_572 : decode cX6_init 572 = .ok (.iinc 3 1, 3) := by decide +kernel
theorem dX6_init_575 : decode cX6_init 575 = .ok (.goto (-121), 3) := by decide +kernel
theorem dX6_init_578 : decode cX6_init 578 = .ok (.return_, 1) := by decide +kernel
theorem dX6_in_0 : decode cX6_in 0 = .ok (.iload_n 0, 1) := by decide +kernel
theorem dX6_in_1 : decode cX6_in 1 = .ok (.iload_n 1, 1) := by decide +kernel
theorem dX6_in_2 : decode cX6_in 2 = .ok (.if_icmp .lt 12, 3) := by decide +kernel
theorem dX6_in_5 : decode cX6_in 5 = .ok (.iload_n 0, 1) := by decide +kernel
theorem dX6_in_6 : decode cX6_in 6 = .ok (.iload_n 2, 1) := by decide +kernel
theorem dX6_in_7 : decode cX6_in 7 = .ok (.if_icmp .gt 7, 3) := by decide +kernel
theorem dX6_in_10 : decode cX6_in 10 = .ok (.iconst 1, 1) := by decide +kernel
theorem dX6_in_11 : decode cX6_in 11 = .ok (.goto 4, 3) := by decide +kernel
theorem dX6_in_14 : decode cX6_in 14 = .ok (.iconst 0, 1) := by decide +kernel
theorem dX6_in_15 : decode cX6_in 15 = .ok (.ireturn, 1) := by decide +kernel
theorem dX6_isClient_0 : decode cX6_isClient 0 = .ok (.iload_n 0, 1) := by decide +kernel
theorem dX6_isClient_1 : decode cX6_isClient 1 = .ok (.iconst 0, 1) := by decide +kernel
theorem dX6_isClient_2 : decode cX6_isClient 2 = .ok (.iconst 5, 1) := by decide +kernel
theorem dX6_isClient_3 : decode cX6_isClient 3 = .ok (.invokestatic 152, 3) := by decide +kernel
theorem dX6_isClient_6 : decode cX6_isClient 6 = .ok (.ireturn, 1) := by decide +kernel
theorem dX6_isServer_0 : decode cX6_isServer 0 = .ok (.iload_n 1, 1) := by decide +kernel
theorem dX6_isServer_1 : decode cX6_isServer 1 = .ok (.iconst 0, 1) := by decide +kernel
theorem dX6_isServer_2 : decode cX6_isServer 2 = .ok (.aload_n 0, 1) := by decide +kernel
theorem dX6_isServer_3 : decode cX6_isServer 3 = .ok (.getfield 145, 3) := by decide +kernel
theorem dX6_isServer_6 : decode cX6_isServer 6 = .ok (.iconst 1, 1) := by decide +kernel
theorem dX6_isServer_7 : decode cX6_isServer 7 = .ok (.isub, 1) := by decide +kernel
theorem dX6_isServer_8 : decode cX6_isServer 8 = .ok (.invokestatic 152, 3) := by decide +kernel
theorem dX6_isServer_11 : decode cX6_isServer 11 = .ok (.ireturn, 1) := by decide +kernel
theorem dX6_isLive_0 : decode cX6_isLive 0 = .ok (.iconst 0, 1) := by decide +kernel
theorem dX6_isLive_1 : decode cX6_isLive 1 = .ok (.istore_n 2, 1) := by decide +kernel
theorem dX6_isLive_2 : decode cX6_isLive 2 = .ok (.iconst 0, 1) := by decide +kernel
theorem dX6_isLive_3 : decode cX6_isLive 3 = .ok (.istore_n 3, 1) := by decide +kernel
theorem dX6_isLive_4 : decode cX6_isLive 4 = .ok (.iload_n 3, 1) := by decide +kernel
theorem dX6_isLive_5 : decode cX6_isLive 5 = .ok (.bipush 6, 2) := by decide +kernel
theorem dX6_isLive_7 : decode cX6_isLive 7 = .ok (.if_icmp .ge 44, 3) := by decide +kernel
theorem dX6_isLive_10 : decode cX6_isLive 10 = .ok (.iload_n 2, 1) := by decide +kernel
theorem dX6_isLive_11 : decode cX6_isLive 11 = .ok (.iload_n 1, 1) := by decide +kernel
theorem dX6_isLive_12 : decode cX6_isLive 12 = .ok (.ifCond .le 30, 3) := by decide +kernel
theorem dX6_isLive_15 : decode cX6_isLive 15 = .ok (.aload_n 0, 1) := by decide +kernel
theorem dX6_isLive_16 : decode cX6_isLive 16 = .ok (.getfield 7, 3) := by decide +kernel
theorem dX6_isLive_19 : decode cX6_isLive 19 = .ok (.iload_n 3, 1) := by decide +kernel
theorem dX6_isLive_20 : decode cX6_isLive 20 = .ok (.iaload, 1) := by decide +kernel
theorem dX6_isLive_21 : decode cX6_isLive 21 = .ok (.iload_n 1, 1) := by decide +kernel
theorem dX6_isLive_22 : decode cX6_isLive 22 = .ok (.if_icmp .ne 20, 3) := by decide +kernel
theorem dX6_isLive_25 : decode cX6_isLive 25 = .ok (.aload_n 0, 1) := by decide +kernel
theorem dX6_isLive_26 : decode cX6_isLive 26 = .ok (.getfield 156, 3) := by decide +kernel
theorem dX6_isLive_29 : decode cX6_isLive 29 = .ok (.aload_n 0, 1) := by decide +kernel
theorem dX6_isLive_30 : decode cX6_isLive 30 = .ok (.getfield 13, 3) := by decide +kernel
theorem dX6_isLive_33 : decode cX6_isLive 33 = .ok (.iload_n 3, 1) := by decide +kernel
theorem dX6_isLive_34 : decode cX6_isLive 34 = .ok (.iaload, 1) := by decide +kernel
theorem dX6_isLive_35 : decode cX6_isLive 35 = .ok (.if_icmp .gt 7, 3) := by decide +kernel
theorem dX6_isLive_38 : decode cX6_isLive 38 = .ok (.iconst 1, 1) := by decide +kernel
theorem dX6_isLive_39 : decode cX6_isLive 39 = .ok (.goto 4, 3) := by decide +kernel
theorem dX6_isLive_42 : decode cX6_isLive 42 = .ok (.iconst 0, 1) := by decide +kernel
theorem dX6_isLive_43 : decode cX6_isLive 43 = .ok (.ior, 1) := by decide +kernel
theorem dX6_isLive_44 : decode cX6_isLive 44 = .ok (.istore_n 2, 1) := by decide +kernel
theorem dX6_isLive_45 : decode cX6_isLive 45 = .ok (.iinc 3 1, 3) := by decide +kernel
theorem dX6_isLive_48 : decode cX6_isLive 48 = .ok (.goto (-44), 3) := by decide +kernel
theorem dX6_isLive_51 : decode cX6_isLive 51 = .ok (.iload_n 2, 1) := by decide +kernel
theorem dX6_isLive_52 : decode cX6_isLive 52 = .ok (.ireturn, 1) := by decide +kernel
theorem dX6_first_0 : decode cX6_first 0 = .ok (.iconst 1, 1) := by decide +kernel
theorem dX6_first_1 : decode cX6_first 1 = .ok (.istore_n 2, 1) := by decide +kernel
theorem dX6_first_2 : decode cX6_first 2 = .ok (.iload_n 2, 1) := by decide +kernel
theorem dX6_first_3 : decode cX6_first 3 = .ok (.aload_n 0, 1) := by decide +kernel
theorem dX6_first_4 : decode cX6_first 4 = .ok (.getfield 16, 3) := by decide +kernel
theorem dX6_first_7 : decode cX6_first 7 = .ok (.iload_n 1, 1) := by decide +kernel
theorem dX6_first_8 : decode cX6_first 8 = .ok (.iaload, 1) := by decide +kernel
theorem dX6_first_9 : decode cX6_first 9 = .ok (.if_icmp .gt 25, 3) := by decide +kernel
theorem dX6_first_12 : decode cX6_first 12 = .ok (.aload_n 0, 1) := by decide +kernel
theorem dX6_first_13 : decode cX6_first 13 = .ok (.getfield 22, 3) := by decide +kernel
theorem dX6_first_16 : decode cX6_first 16 = .ok (.bipush 60, 2) := by decide +kernel
theorem dX6_first_18 : decode cX6_first 18 = .ok (.iload_n 1, 1) := by decide +kernel
theorem dX6_first_19 : decode cX6_first 19 = .ok (.imul, 1) := by decide +kernel
theorem dX6_first_20 : decode cX6_first 20 = .ok (.iload_n 2, 1) := by decide +kernel
theorem dX6_first_21 : decode cX6_first 21 = .ok (.iadd, 1) := by decide +kernel
theorem dX6_first_22 : decode cX6_first 22 = .ok (.iconst 1, 1) := by decide +kernel
theorem dX6_first_23 : decode cX6_first 23 = .ok (.isub, 1) := by decide +kernel
theorem dX6_first_24 : decode cX6_first 24 = .ok (.iaload, 1) := by decide +kernel
theorem dX6_first_25 : decode cX6_first 25 = .ok (.ifCond .eq 9, 3) := by decide +kernel
theorem dX6_first_28 : decode cX6_first 28 = .ok (.iinc 2 1, 3) := by decide +kernel
theorem dX6_first_31 : decode cX6_first 31 = .ok (.goto (-29), 3) := by decide +kernel
theorem dX6_first_34 : decode cX6_first 34 = .ok (.iload_n 2, 1) := by decide +kernel
theorem dX6_first_35 : decode cX6_first 35 = .ok (.ireturn, 1) := by decide +kernel
theorem dX6_letter_0 : decode cX6_letter 0 = .ok (.aload_n 0, 1) := by decide +kernel
theorem dX6_letter_1 : decode cX6_letter 1 = .ok (.getfield 81, 3) := by decide +kernel
theorem dX6_letter_4 : decode cX6_letter 4 = .ok (.aload_n 0, 1) := by decide +kernel
theorem dX6_letter_5 : decode cX6_letter 5 = .ok (.getfield 159, 3) := by decide +kernel
theorem dX6_letter_8 : decode cX6_letter 8 = .ok (.baload, 1) := by decide +kernel
theorem dX6_letter_9 : decode cX6_letter 9 = .ok (.ifCond .eq 30, 3) := by decide +kernel
theorem dX6_letter_12 : decode cX6_letter 12 = .ok (.aload_n 0, 1) := by decide +kernel
theorem dX6_letter_13 : decode cX6_letter 13 = .ok (.aload_n 0, 1) := by decide +kernel
theorem dX6_letter_14 : decode cX6_letter 14 = .ok (.getfield 159, 3) := by decide +kernel
theorem dX6_letter_17 : decode cX6_letter 17 = .ok (.sipush 4699, 3) := by decide +kernel
theorem dX6_letter_20 : decode cX6_letter 20 = .ok (.if_icmp .ne 7, 3) := by decide +kernel
theorem dX6_letter_23 : decode cX6_letter 23 = .ok (.iconst 0, 1) := by decide +kernel
theorem dX6_letter_24 : decode cX6_letter 24 = .ok (.goto 9, 3) := by decide +kernel
theorem dX6_letter_27 : decode cX6_letter 27 = .ok (.aload_n 0, 1) := by decide +kernel
theorem dX6_letter_28 : decode cX6_letter 28 = .ok (.getfield 159, 3) := by decide +kernel
theorem dX6_letter_31 : decode cX6_letter 31 = .ok (.iconst 1, 1) := by decide +kernel
theorem dX6_letter_32 : decode cX6_letter 32 = .ok (.iadd, 1) := by decide +kernel
theorem dX6_letter_33 : decode cX6_letter 33 = .ok (.putfield 159, 3) := by decide +kernel
theorem dX6_letter_36 : decode cX6_letter 36 = .ok (.goto (-36), 3) := by decide +kernel
theorem dX6_letter_39 : decode cX6_letter 39 = .ok (.aload_n 0, 1) := by decide +kernel
theorem dX6_letter_40 : decode cX6_letter 40 = .ok (.getfield 159, 3) := by decide +kernel
theorem dX6_letter_43 : decode cX6_letter 43 = .ok (.istore 4, 2) := by decide +kernel
theorem dX6_letter_45 : decode cX6_letter 45 = .ok (.aload_n 0, 1) := by decide +kernel
theorem dX6_letter_46 : decode cX6_letter 46 = .ok (.getfield 81, 3) := by decide +kernel
theorem dX6_letter_49 : decode cX6_letter 49 = .ok (.iload 4, 2) := by decide +kernel
theorem dX6_letter_51 : decode cX6_letter 51 = .ok (.iconst 1, 1) := by decide +kernel
theorem dX6_letter_52 : decode cX6_letter 52 = .ok (.bastore, 1) := by decide +kernel
theorem dX6_letter_53 : decode cX6_letter 53 = .ok (.aload_n 0, 1) := by decide +kernel
theorem dX6_letter_54 : decode cX6_letter 54 = .ok (.getfield 84, 3) := by decide +kernel
theorem dX6_letter_57 : decode cX6_letter 57 = .ok (.iload 4, 2) := by decide +kernel
theorem dX6_letter_59 : decode cX6_letter 59 = .ok (.iload_n 1, 1) := by decide +kernel
theorem dX6_letter_60 : decode cX6_letter 60 = .ok (.iastore, 1) := by decide +kernel
theorem dX6_letter_61 : decode cX6_letter 61 = .ok (.aload_n 0, 1) := by decide +kernel
theorem dX6_letter_62 : decode cX6_letter 62 = .ok (.getfield 87, 3) := by decide +kernel
theorem dX6_letter_65 : decode cX6_letter 65 = .ok (.iload 4, 2) := by decide +kernel
theorem dX6_letter_67 : decode cX6_letter 67 = .ok (.iload_n 2, 1) := by decide +kernel
theorem dX6_letter_68 : decode cX6_letter 68 = .ok (.iastore, 1) := by decide +kernel
theorem dX6_letter_69 : decode cX6_letter 69 = .ok (.aload_n 0, 1) := by decide +kernel
theorem dX6_letter_70 : decode cX6_letter 70 = .ok (.getfield 90, 3) := by decide +kernel
theorem dX6_letter_73 : decode cX6_letter 73 = .ok (.iload 4, 2) := by decide +kernel
theorem dX6_letter_75 : decode cX6_letter 75 = .ok (.iload_n 3, 1) := by decide +kernel
theorem dX6_letter_76 : decode cX6_letter 76 = .ok (.iastore, 1) := by decide +kernel
theorem dX6_letter_77 : decode cX6_letter 77 = .ok (.aload_n 0, 1) := by decide +kernel
theorem dX6_letter_78 : decode cX6_letter 78 = .ok (.getfield 93, 3) := by decide +kernel
theorem dX6_letter_81 : decode cX6_letter 81 = .ok (.iload 4, 2) := by decide +kernel
theorem dX6_letter_83 : decode cX6_letter 83 = .ok (.iconst 0, 1) := by decide +kernel
theorem dX6_letter_84 : decode cX6_letter 84 = .ok (.iastore, 1) := by decide +kernel
theorem dX6_letter_85 : decode cX6_letter 85 = .ok (.aload_n 0, 1) := by decide +kernel
theorem dX6_letter_86 : decode cX6_letter 86 = .ok (.getfield 96, 3) := by decide +kernel
theorem dX6_letter_89 : decode cX6_letter 89 = .ok (.iload 4, 2) := by decide +kernel
theorem dX6_letter_91 : decode cX6_letter 91 = .ok (.iconst 0, 1) := by decide +kernel
theorem dX6_letter_92 : decode cX6_letter 92 = .ok (.iastore, 1) := by decide +kernel
theorem dX6_letter_93 : decode cX6_letter 93 = .ok (.aload_n 0, 1) := by decide +kernel
theorem dX6_letter_94 : decode cX6_letter 94 = .ok (.getfield 99, 3) := by decide +kernel
theorem dX6_letter_97 : decode cX6_letter 97 = .ok (.iload 4, 2) := by decide +kernel
theorem dX6_letter_99 : decode cX6_letter 99 = .ok (.iconst 0, 1) := by decide +kernel
theorem dX6_letter_100 : decode cX6_letter 100 = .ok (.iastore, 1) := by decide +kernel
theorem dX6_letter_101 : decode cX6_letter 101 = .ok (.aload_n 0, 1) := by decide +kernel
theorem dX6_letter_102 : decode cX6_letter 102 = .ok (.getfield 102, 3) := by decide +kernel
theorem dX6_letter_105 : decode cX6_letter 105 = .ok (.iload 4, 2) := by decide +kernel
theorem dX6_letter_107 : decode cX6_letter 107 = .ok (.iconst 0, 1) := by decide +kernel
theorem dX6_letter_108 : decode cX6_letter 108 = .ok (.iastore, 1) := by decide +kernel
theorem dX6_letter_109 : decode cX6_letter 109 = .ok (.aload_n 0, 1) := by decide +kernel
theorem dX6_letter_110 : decode cX6_letter 110 = .ok (.getfield 105, 3) := by decide +kernel
theorem dX6_letter_113 : decode cX6_letter 113 = .ok (.iload 4, 2) := by decide +kernel
theorem dX6_letter_115 : decode cX6_letter 115 = .ok (.iconst 0, 1) := by decide +kernel
theorem dX6_letter_116 : decode cX6_letter 116 = .ok (.iastore, 1) := by decide +kernel
theorem dX6_letter_117 : decode cX6_letter 117 = .ok (.aload_n 0, 1) := by decide +kernel
theorem dX6_letter_118 : decode cX6_letter 118 = .ok (.getfield 108, 3) := by decide +kernel
theorem dX6_letter_121 : decode cX6_letter 121 = .ok (.iload 4, 2) := by decide +kernel
theorem dX6_letter_123 : decode cX6_letter 123 = .ok (.lconst 0, 1) := by decide +kernel
theorem dX6_letter_124 : decode cX6_letter 124 = .ok (.lastore, 1) := by decide +kernel
theorem dX6_letter_125 : decode cX6_letter 125 = .ok (.aload_n 0, 1) := by decide +kernel
theorem dX6_letter_126 : decode cX6_letter 126 = .ok (.getfield 111, 3) := by decide +kernel
theorem dX6_letter_129 : decode cX6_letter 129 = .ok (.iload 4, 2) := by decide +kernel
theorem dX6_letter_131 : decode cX6_letter 131 = .ok (.lconst 0, 1) := by decide +kernel
theorem dX6_letter_132 : decode cX6_letter 132 = .ok (.lastore, 1) := by decide +kernel
theorem dX6_letter_133 : decode cX6_letter 133 = .ok (.iload 4, 2) := by decide +kernel
theorem dX6_letter_135 : decode cX6_letter 135 = .ok (.ireturn, 1) := by decide +kernel
theorem dX6_go_0 : decode cX6_go 0 = .ok (.aload_n 0, 1) := by decide +kernel
theorem dX6_go_1 : decode cX6_go 1 = .ok (.getfield 162, 3) := by decide +kernel
theorem dX6_go_4 : decode cX6_go 4 = .ok (.sipush 400, 3) := by decide +kernel
theorem dX6_go_7 : decode cX6_go 7 = .ok (.if_icmp .ne 21, 3) := by decide +kernel
theorem dX6_go_10 : decode cX6_go 10 = .ok (.aload_n 0, 1) := by decide +kernel
theorem dX6_go_11 : decode cX6_go 11 = .ok (.getfield 81, 3) := by decide +kernel
theorem dX6_go_14 : decode cX6_go 14 = .ok (.iload_n 1, 1) := by decide +kernel
theorem dX6_go_15 : decode cX6_go 15 = .ok (.iconst 0, 1) := by decide +kernel
theorem dX6_go_16 : decode cX6_go 16 = .ok (.bastore, 1) := by decide +kernel
theorem dX6_go_17 : decode cX6_go 17 = .ok (.aload_n 0, 1) := by decide +kernel
theorem dX6_go_18 : decode cX6_go 18 = .ok (.dup, 1) := by decide +kernel
theorem dX6_go_19 : decode cX6_go 19 = .ok (.getfield 165, 3) := by decide +kernel
theorem dX6_go_22 : decode cX6_go 22 = .ok (.iconst 1, 1) := by decide +kernel
theorem dX6_go_23 : decode cX6_go 23 = .ok (.iadd, 1) := by decide +kernel
theorem dX6_go_24 : decode cX6_go 24 = .ok (.putfield 165, 3) := by decide +kernel
theorem dX6_go_27 : decode cX6_go 27 = .ok (.return_, 1) := by decide +kernel
theorem dX6_go_28 : decode cX6_go 28 = .ok (.aload_n 0, 1) := by decide +kernel
theorem dX6_go_29 : decode cX6_go 29 = .ok (.getfield 136, 3) := by decide +kernel
theorem dX6_go_32 : decode cX6_go 32 = .ok (.aload_n 0, 1) := by decide +kernel
theorem dX6_go_33 : decode cX6_go 33 = .ok (.getfield 162, 3) := by decide +kernel
theorem dX6_go_36 : decode cX6_go 36 = .ok (.iload_n 1, 1) := by decide +kernel
theorem dX6_go_37 : decode cX6_go 37 = .ok (.iastore, 1) := by decide +kernel
theorem dX6_go_38 : decode cX6_go 38 = .ok (.aload_n 0, 1) := by decide +kernel
theorem dX6_go_39 : decode cX6_go 39 = .ok (.dup, 1) := by decide +kernel
theorem dX6_go_40 : decode cX6_go 40 = .ok (.getfield 162, 3) := by decide +kernel
theorem dX6_go_43 : decode cX6_go 43 = .ok (.iconst 1, 1) := by decide +kernel
theorem dX6_go_44 : decode cX6_go 44 = .ok (.iadd, 1) := by decide +kernel
theorem dX6_go_45 : decode cX6_go 45 = .ok (.putfield 162, 3) := by decide +kernel
theorem dX6_go_48 : decode cX6_go 48 = .ok (.return_, 1) := by decide +kernel
theorem dX6_sendFrom_0 : decode cX6_sendFrom 0 = .ok (.aload_n 0, 1) := by decide +kernel
theorem dX6_sendFrom_1 : decode cX6_sendFrom 1 = .ok (.getfield 78, 3) := by decide +kernel
theorem dX6_sendFrom_4 : decode cX6_sendFrom 4 = .ok (.iload_n 1, 1) := by decide +kernel
theorem dX6_sendFrom_5 : decode cX6_sendFrom 5 = .ok (.baload, 1) := by decide +kernel
theorem dX6_sendFrom_6 : decode cX6_sendFrom 6 = .ok (.ifCond .ne 9, 3) := by decide +kernel
theorem dX6_sendFrom_9 : decode cX6_sendFrom 9 = .ok (.aload_n 0, 1) := by decide +kernel
theorem dX6_sendFrom_10 : decode cX6_sendFrom 10 = .ok (.iload_n 2, 1) := by decide +kernel
theorem dX6_sendFrom_11 : decode cX6_sendFrom 11 = .ok (.invokevirtual 168, 3) := by decide +kernel
theorem dX6_sendFrom_14 : decode cX6_sendFrom 14 = .ok (.return_, 1) := by decide +kernel
theorem dX6_sendFrom_15 : decode cX6_sendFrom 15 = .ok (.aload_n 0, 1) := by decide +kernel
theorem dX6_sendFrom_16 : decode cX6_sendFrom 16 = .ok (.getfield 139, 3) := by decide +kernel
theorem dX6_sendFrom_19 : decode cX6_sendFrom 19 = .ok (.sipush 4200, 3) := by decide +kernel
theorem dX6_sendFrom_22 : decode cX6_sendFrom 22 = .ok (.iload_n 1, 1) := by decide +kernel
theorem dX6_sendFrom_23 : decode cX6_sendFrom 23 = .ok (.imul, 1) := by decide +kernel
theorem dX6_sendFrom_24 : decode cX6_sendFrom 24 = .ok (.aload_n 0, 1) := by decide +kernel
theorem dX6_sendFrom_25 : decode cX6_sendFrom 25 = .ok (.getfield 142, 3) := by decide +kernel
theorem dX6_sendFrom_28 : decode cX6_sendFrom 28 = .ok (.iload_n 1, 1) := by decide +kernel
theorem dX6_sendFrom_29 : decode cX6_sendFrom 29 = .ok (.iaload, 1) := by decide +kernel
theorem dX6_sendFrom_30 : decode cX6_sendFrom 30 = .ok (.iadd, 1) := by decide +kernel
theorem dX6_sendFrom_31 : decode cX6_sendFrom 31 = .ok (.iload_n 2, 1) := by decide +kernel
theorem dX6_sendFrom_32 : decode cX6_sendFrom 32 = .ok (.iastore, 1) := by decide +kernel
theorem dX6_sendFrom_33 : decode cX6_sendFrom 33 = .ok (.aload_n 0, 1) := by decide +kernel
theorem dX6_sendFrom_34 : decode cX6_sendFrom 34 = .ok (.getfield 142, 3) := by decide +kernel
theorem dX6_sendFrom_37 : decode cX6_sendFrom 37 = .ok (.iload_n 1, 1) := by decide +kernel
theorem dX6_sendFrom_38 : decode cX6_sendFrom 38 = .ok (.dup2, 1) := by decide +kernel
theorem dX6_sendFrom_39 : decode cX6_sendFrom 39 = .ok (.iaload, 1) := by decide +kernel
theorem dX6_sendFrom_40 : decode cX6_sendFrom 40 = .ok (.iconst 1, 1) := by decide +kernel
theorem dX6_sendFrom_41 : decode cX6_sendFrom 41 = .ok (.iadd, 1) := by decide +kernel
theorem dX6_sendFrom_42 : decode cX6_sendFrom 42 = .ok (.iastore, 1) := by decide +kernel
theorem dX6_sendFrom_43 : decode cX6_sendFrom 43 = .ok (.return_, 1) := by decide +kernel
theorem dX6_takeOut_0 : decode cX6_takeOut 0 = .ok (.aload_n 0, 1) := by decide +kernel
theorem dX6_takeOut_1 : decode cX6_takeOut 1 = .ok (.getfield 136, 3) := by decide +kernel
theorem dX6_takeOut_4 : decode cX6_takeOut 4 = .ok (.iload_n 1, 1) := by decide +kernel
theorem dX6_takeOut_5 : decode cX6_takeOut 5 = .ok (.iaload, 1) := by decide +kernel
theorem dX6_takeOut_6 : decode cX6_takeOut 6 = .ok (.istore_n 2, 1) := by decide +kernel
theorem dX6_takeOut_7 : decode cX6_takeOut 7 = .ok (.aload_n 0, 1) := by decide +kernel
theorem dX6_takeOut_8 : decode cX6_takeOut 8 = .ok (.dup, 1) := by decide +kernel
theorem dX6_takeOut_9 : decode cX6_takeOut 9 = .ok (.getfield 162, 3) := by decide +kernel
theorem dX6_takeOut_12 : decode cX6_takeOut 12 = .ok (.iconst 1, 1) := by decide +kernel
theorem dX6_takeOut_13 : decode cX6_takeOut 13 = .ok (.isub, 1) := by decide +kernel
theorem dX6_takeOut_14 : decode cX6_takeOut 14 = .ok (.putfield 162, 3) := by decide +kernel
theorem dX6_takeOut_17 : decode cX6_takeOut 17 = .ok (.iload_n 1, 1) := by decide +kernel
theorem dX6_takeOut_18 : decode cX6_takeOut 18 = .ok (.istore_n 3, 1) := by decide +kernel
theorem dX6_takeOut_19 : decode cX6_takeOut 19 = .ok (.iload_n 3, 1) := by decide +kernel
theorem dX6_takeOut_20 : decode cX6_takeOut 20 = .ok (.aload_n 0, 1) := by decide +kernel
theorem dX6_takeOut_21 : decode cX6_takeOut 21 = .ok (.getfield 162, 3) := by decide +kernel
theorem dX6_takeOut_24 : decode cX6_takeOut 24 = .ok (.if_icmp .ge 23, 3) := by decide +kernel
theorem dX6_takeOut_27 : decode cX6_takeOut 27 = .ok (.aload_n 0, 1) := by decide +kernel
theorem dX6_takeOut_28 : decode cX6_takeOut 28 = .ok (.getfield 136, 3) := by decide +kernel
theorem dX6_takeOut_31 : decode cX6_takeOut 31 = .ok (.iload_n 3, 1) := by decide +kernel
theorem dX6_takeOut_32 : decode cX6_takeOut 32 = .ok (.aload_n 0, 1) := by decide +kernel
theorem dX6_takeOut_33 : decode cX6_takeOut 33 = .ok (.getfield 136, 3) := by decide +kernel
theorem dX6_takeOut_36 : decode cX6_takeOut 36 = .ok (.iload_n 3, 1) := by decide +kernel
theorem dX6_takeOut_37 : decode cX6_takeOut 37 = .ok (.iconst 1, 1) := by decide +kernel
theorem dX6_takeOut_38 : decode cX6_takeOut 38 = .ok (.iadd, 1) := by decide +kernel
theorem dX6_takeOut_39 : decode cX6_takeOut 39 = .ok (.iaload, 1) := by decide +kernel
theorem dX6_takeOut_40 : decode cX6_takeOut 40 = .ok (.iastore, 1) := by decide +kernel
theorem dX6_takeOut_41 : decode cX6_takeOut 41 = .ok (.iinc 3 1, 3) := by decide +kernel
theorem dX6_takeOut_44 : decode cX6_takeOut 44 = .ok (.goto (-25), 3) := by decide +kernel
theorem dX6_takeOut_47 : decode cX6_takeOut 47 = .ok (.iload_n 2, 1) := by decide +kernel
theorem dX6_takeOut_48 : decode cX6_takeOut 48 = .ok (.ireturn, 1) := by decide +kernel
theorem dX6_open_0 : decode cX6_open 0 = .ok (.iload_n 1, 1) := by decide +kernel
theorem dX6_open_1 : decode cX6_open 1 = .ok (.invokestatic 172, 3) := by decide +kernel
theorem dX6_open_4 : decode cX6_open 4 = .ok (.ifCond .ne 5, 3) := by decide +kernel
theorem dX6_open_7 : decode cX6_open 7 = .ok (.iconst (-1), 1) := by decide +kernel
theorem dX6_open_8 : decode cX6_open 8 = .ok (.ireturn, 1) := by decide +kernel
theorem dX6_open_9 : decode cX6_open 9 = .ok (.aload_n 0, 1) := by decide +kernel
theorem dX6_open_10 : decode cX6_open 10 = .ok (.dup, 1) := by decide +kernel
theorem dX6_open_11 : decode cX6_open 11 = .ok (.getfield 176, 3) := by decide +kernel
theorem dX6_open_14 : decode cX6_open 14 = .ok (.iconst 1, 1) := by decide +kernel
theorem dX6_open_15 : decode cX6_open 15 = .ok (.iadd, 1) := by decide +kernel
theorem dX6_open_16 : decode cX6_open 16 = .ok (.putfield 176, 3) := by decide +kernel
theorem dX6_open_19 : decode cX6_open 19 = .ok (.aload_n 0, 1) := by decide +kernel
theorem dX6_open_20 : decode cX6_open 20 = .ok (.getfield 7, 3) := by decide +kernel
theorem dX6_open_23 : decode cX6_open 23 = .ok (.iload_n 1, 1) := by decide +kernel
theorem dX6_open_24 : decode cX6_open 24 = .ok (.aload_n 0, 1) := by decide +kernel
theorem dX6_open_25 : decode cX6_open 25 = .ok (.getfield 176, 3) := by decide +kernel
theorem dX6_open_28 : decode cX6_open 28 = .ok (.iastore, 1) := by decide +kernel
theorem dX6_open_29 : decode cX6_open 29 = .ok (.aload_n 0, 1) := by decide +kernel
theorem dX6_open_30 : decode cX6_open 30 = .ok (.getfield 13, 3) := by decide +kernel
theorem dX6_open_33 : decode cX6_open 33 = .ok (.iload_n 1, 1) := by decide +kernel
theorem dX6_open_34 : decode cX6_open 34 = .ok (.aload_n 0, 1) := by decide +kernel
theorem dX6_open_35 : decode cX6_open 35 = .ok (.getfield 156, 3) := by decide +kernel
theorem dX6_open_38 : decode cX6_open 38 = .ok (.aload_n 0, 1) := by decide +kernel
theorem dX6_open_39 : decode cX6_open 39 = .ok (.getfield 149, 3) := by decide +kernel
theorem dX6_open_42 : decode cX6_open 42 = .ok (.iadd, 1) := by decide +kernel
theorem dX6_open_43 : decode cX6_open 43 = .ok (.iastore, 1) := by decide +kernel
theorem dX6_open_44 : decode cX6_open 44 = .ok (.aload_n 0, 1) := by decide +kernel
theorem dX6_open_45 : decode cX6_open 45 = .ok (.getfield 16, 3) := by decide +kernel
theorem dX6_open_48 : decode cX6_open 48 = .ok (.iload_n 1, 1) := by decide +kernel
theorem dX6_open_49 : decode cX6_open 49 = .ok (.iconst 0, 1) := by decide +kernel
theorem dX6_open_50 : decode cX6_open 50 = .ok (.iastore, 1) := by decide +kernel
theorem dX6_open_51 : decode cX6_open 51 = .ok (.aload_n 0, 1) := by decide +kernel
theorem dX6_open_52 : decode cX6_open 52 = .ok (.getfield 176, 3) := by decide +kernel
theorem dX6_open_55 : decode cX6_open 55 = .ok (.ireturn, 1) := by decide +kernel
theorem dX6_renew_0 : decode cX6_renew 0 = .ok (.iload_n 1, 1) := by decide +kernel
theorem dX6_renew_1 : decode cX6_renew 1 = .ok (.invokestatic 172, 3) := by decide +kernel
theorem dX6_renew_4 : decode cX6_renew 4 = .ok (.ifCond .ne 5, 3) := by decide +kernel
theorem dX6_renew_7 : decode cX6_renew 7 = .ok (.iconst (-1), 1) := by decide +kernel
theorem dX6_renew_8 : decode cX6_renew 8 = .ok (.ireturn, 1) := by decide +kernel
theorem dX6_renew_9 : decode cX6_renew 9 = .ok (.aload_n 0, 1) := by decide +kernel
theorem dX6_renew_10 : decode cX6_renew 10 = .ok (.aload_n 0, 1) := by decide +kernel
theorem dX6_renew_11 : decode cX6_renew 11 = .ok (.getfield 7, 3) := by decide +kernel
theorem dX6_renew_14 : decode cX6_renew 14 = .ok (.iload_n 1, 1) := by decide +kernel
theorem dX6_renew_15 : decode cX6_renew 15 = .ok (.iaload, 1) := by decide +kernel
theorem dX6_renew_16 : decode cX6_renew 16 = .ok (.invokevirtual 179, 3) := by decide +kernel
theorem dX6_renew_19 : decode cX6_renew 19 = .ok (.ifCond .ne 6, 3) := by decide +kernel
theorem dX6_renew_22 : decode cX6_renew 22 = .ok (.bipush (-3), 2) := by decide +kernel
theorem dX6_renew_24 : decode cX6_renew 24 = .ok (.ireturn, 1) := by decide +kernel
theorem dX6_renew_25 : decode cX6_renew 25 = .ok (.aload_n 0, 1) := by decide +kernel
theorem dX6_renew_26 : decode cX6_renew 26 = .ok (.getfield 13, 3) := by decide +kernel
theorem dX6_renew_29 : decode cX6_renew 29 = .ok (.iload_n 1, 1) := by decide +kernel
theorem dX6_renew_30 : decode cX6_renew 30 = .ok (.aload_n 0, 1) := by decide +kernel
theorem dX6_renew_31 : decode cX6_renew 31 = .ok (.getfield 156, 3) := by decide +kernel
theorem dX6_renew_34 : decode cX6_renew 34 = .ok (.aload_n 0, 1) := by decide +kernel
theorem dX6_renew_35 : decode cX6_renew 35 = .ok (.getfield 149, 3) := by decide +kernel
theorem dX6_renew_38 : decode cX6_renew 38 = .ok (.iadd, 1) := by decide +kernel
theorem dX6_renew_39 : decode cX6_renew 39 = .ok (.iastore, 1) := by decide +kernel
theorem dX6_renew_40 : decode cX6_renew 40 = .ok (.aload_n 0, 1) := by decide +kernel
theorem dX6_renew_41 : decode cX6_renew 41 = .ok (.getfield 13, 3) := by decide +kernel
theorem dX6_renew_44 : decode cX6_renew 44 = .ok (.iload_n 1, 1) := by decide +kernel
theorem dX6_renew_45 : decode cX6_renew 45 = .ok (.iaload, 1) := by decide +kernel
theorem dX6_renew_46 : decode cX6_renew 46 = .ok (.ireturn, 1) := by decide +kernel
theorem dX6_waiting_0 : decode cX6_waiting 0 = .ok (.iconst 0, 1) := by decide +kernel
theorem dX6_waiting_1 : decode cX6_waiting 1 = .ok (.istore_n 2, 1) := by decide +kernel
theorem dX6_waiting_2 : decode cX6_waiting 2 = .ok (.iconst 0, 1) := by decide +kernel
theorem dX6_waiting_3 : decode cX6_waiting 3 = .ok (.istore_n 3, 1) := by decide +kernel
theorem dX6_waiting_4 : decode cX6_waiting 4 = .ok (.iload_n 3, 1) := by decide +kernel
theorem dX6_waiting_5 : decode cX6_waiting 5 = .ok (.aload_n 0, 1) := by decide +kernel
theorem dX6_waiting_6 : decode cX6_waiting 6 = .ok (.getfield 16, 3) := by decide +kernel
theorem dX6_waiting_9 : decode cX6_waiting 9 = .ok (.iload_n 1, 1) := by decide +kernel
theorem dX6_waiting_10 : decode cX6_waiting 10 = .ok (.iaload, 1) := by decide +kernel
theorem dX6_waiting_11 : decode cX6_waiting 11 = .ok (.if_icmp .ge 31, 3) := by decide +kernel
theorem dX6_waiting_14 : decode cX6_waiting 14 = .ok (.iload_n 2, 1) := by decide +kernel
theorem dX6_waiting_15 : decode cX6_waiting 15 = .ok (.aload_n 0, 1) := by decide +kernel
theorem dX6_waiting_16 : decode cX6_waiting 16 = .ok (.getfield 22, 3) := by decide +kernel
theorem dX6_waiting_19 : decode cX6_waiting 19 = .ok (.bipush 60, 2) := by decide +kernel
theorem dX6_waiting_21 : decode cX6_waiting 21 = .ok (.iload_n 1, 1) := by decide +kernel
theorem dX6_waiting_22 : decode cX6_waiting 22 = .ok (.imul, 1) := by decide +kernel
theorem dX6_waiting_23 : decode cX6_waiting 23 = .ok (.iload_n 3, 1) := by decide +kernel
theorem dX6_waiting_24 : decode cX6_waiting 24 = .ok (.iadd, 1) := by decide +kernel
theorem dX6_waiting_25 : decode cX6_waiting 25 = .ok (.iaload, 1) := by decide +kernel
theorem dX6_waiting_26 : decode cX6_waiting 26 = .ok (.ifCond .ne 7, 3) := by decide +kernel
theorem dX6_waiting_29 : decode cX6_waiting 29 = .ok (.iconst 1, 1) := by decide +kernel
theorem dX6_waiting_30 : decode cX6_waiting 30 = .ok (.goto 4, 3) := by decide +kernel
theorem dX6_waiting_33 : decode cX6_waiting 33 = .ok (.iconst 0, 1) := by decide +kernel
theorem dX6_waiting_34 : decode cX6_waiting 34 = .ok (.iadd, 1) := by decide +kernel
theorem dX6_waiting_35 : decode cX6_waiting 35 = .ok (.istore_n 2, 1) := by decide +kernel
theorem dX6_waiting_36 : decode cX6_waiting 36 = .ok (.iinc 3 1, 3) := by decide +kernel
theorem dX6_waiting_39 : decode cX6_waiting 39 = .ok (.goto (-35), 3) := by decide +kernel
theorem dX6_waiting_42 : decode cX6_waiting 42 = .ok (.iload_n 2, 1) := by decide +kernel
theorem dX6_waiting_43 : decode cX6_waiting 43 = .ok (.ireturn, 1) := by decide +kernel
theorem dX6_request_0 : decode cX6_request 0 = .ok (.bipush 60, 2) := by decide +kernel
theorem dX6_request_2 : decode cX6_request 2 = .ok (.iload_n 1, 1) := by decide +kernel
theorem dX6_request_3 : decode cX6_request 3 = .ok (.imul, 1) := by decide +kernel
theorem dX6_request_4 : decode cX6_request 4 = .ok (.iload_n 2, 1) := by decide +kernel
theorem dX6_request_5 : decode cX6_request 5 = .ok (.iadd, 1) := by decide +kernel
theorem dX6_request_6 : decode cX6_request 6 = .ok (.iconst 1, 1) := by decide +kernel
theorem dX6_request_7 : decode cX6_request 7 = .ok (.isub, 1) := by decide +kernel
theorem dX6_request_8 : decode cX6_request 8 = .ok (.istore_n 3, 1) := by decide +kernel
theorem dX6_request_9 : decode cX6_request 9 = .ok (.aload_n 0, 1) := by decide +kernel
theorem dX6_request_10 : decode cX6_request 10 = .ok (.iconst 1, 1) := by decide +kernel
theorem dX6_request_11 : decode cX6_request 11 = .ok (.aload_n 0, 1) := by decide +kernel
theorem dX6_request_12 : decode cX6_request 12 = .ok (.getfield 19, 3) := by decide +kernel
theorem dX6_request_15 : decode cX6_request 15 = .ok (.bipush 8, 2) := by decide +kernel
theorem dX6_request_17 : decode cX6_request 17 = .ok (.iload_n 1, 1) := by decide +kernel
theorem dX6_request_18 : decode cX6_request 18 = .ok (.imul, 1) := by decide +kernel
theorem dX6_request_19 : decode cX6_request 19 = .ok (.aload_n 0, 1) := by decide +kernel
theorem dX6_request_20 : decode cX6_request 20 = .ok (.getfield 29, 3) := by decide +kernel
theorem dX6_request_23 : decode cX6_request 23 = .ok (.iload_n 3, 1) := by decide +kernel
theorem dX6_request_24 : decode cX6_request 24 = .ok (.iaload, 1) := by decide +kernel
theorem dX6_request_25 : decode cX6_request 25 = .ok (.bipush 8, 2) := by decide +kernel
theorem dX6_request_27 : decode cX6_request 27 = .ok (.irem, 1) := by decide +kernel
theorem dX6_request_28 : decode cX6_request 28 = .ok (.iadd, 1) := by decide +kernel
theorem dX6_request_29 : decode cX6_request 29 = .ok (.iaload, 1) := by decide +kernel
theorem dX6_request_30 : decode cX6_request 30 = .ok (.iload_n 1, 1) := by decide +kernel
theorem dX6_request_31 : decode cX6_request 31 = .ok (.invokevirtual 182, 3) := by decide +kernel
theorem dX6_request_34 : decode cX6_request 34 = .ok (.istore 4, 2) := by decide +kernel
theorem dX6_request_36 : decode cX6_request 36 = .ok (.aload_n 0, 1) := by decide +kernel
theorem dX6_request_37 : decode cX6_request 37 = .ok (.getfield 93, 3) := by decide +kernel
theorem dX6_request_40 : decode cX6_request 40 = .ok (.iload 4, 2) := by decide +kernel
theorem dX6_request_42 : decode cX6_request 42 = .ok (.aload_n 0, 1) := by decide +kernel
theorem dX6_request_43 : decode cX6_request 43 = .ok (.getfield 7, 3) := by decide +kernel
theorem dX6_request_46 : decode cX6_request 46 = .ok (.iload_n 1, 1) := by decide +kernel
theorem dX6_request_47 : decode cX6_request 47 = .ok (.iaload, 1) := by decide +kernel
theorem dX6_request_48 : decode cX6_request 48 = .ok (.iastore, 1) := by decide +kernel
theorem dX6_request_49 : decode cX6_request 49 = .ok (.aload_n 0, 1) := by decide +kernel
theorem dX6_request_50 : decode cX6_request 50 = .ok (.getfield 96, 3) := by decide +kernel
theorem dX6_request_53 : decode cX6_request 53 = .ok (.iload 4, 2) := by decide +kernel
theorem dX6_request_55 : decode cX6_request 55 = .ok (.iload_n 2, 1) := by decide +kernel
theorem dX6_request_56 : decode cX6_request 56 = .ok (.iastore, 1) := by decide +kernel
theorem dX6_request_57 : decode cX6_request 57 = .ok (.aload_n 0, 1) := by decide +kernel
theorem dX6_request_58 : decode cX6_request 58 = .ok (.getfield 99, 3) := by decide +kernel
theorem dX6_request_61 : decode cX6_request 61 = .ok (.iload 4, 2) := by decide +kernel
theorem dX6_request_63 : decode cX6_request 63 = .ok (.aload_n 0, 1) := by decide +kernel
theorem dX6_request_64 : decode cX6_request 64 = .ok (.iload_n 1, 1) := by decide +kernel
theorem dX6_request_65 : decode cX6_request 65 = .ok (.invokevirtual 186, 3) := by decide +kernel
theorem dX6_request_68 : decode cX6_request 68 = .ok (.iastore, 1) := by decide +kernel
theorem dX6_request_69 : decode cX6_request 69 = .ok (.aload_n 0, 1) := by decide +kernel
theorem dX6_request_70 : decode cX6_request 70 = .ok (.getfield 102, 3) := by decide +kernel
theorem dX6_request_73 : decode cX6_request 73 = .ok (.iload 4, 2) := by decide +kernel
theorem dX6_request_75 : decode cX6_request 75 = .ok (.aload_n 0, 1) := by decide +kernel
theorem dX6_request_76 : decode cX6_request 76 = .ok (.getfield 29, 3) := by decide +kernel
theorem dX6_request_79 : decode cX6_request 79 = .ok (.iload_n 3, 1) := by decide +kernel
theorem dX6_request_80 : decode cX6_request 80 = .ok (.iaload, 1) := by decide +kernel
theorem dX6_request_81 : decode cX6_request 81 = .ok (.iastore, 1) := by decide +kernel
theorem dX6_request_82 : decode cX6_request 82 = .ok (.aload_n 0, 1) := by decide +kernel
theorem dX6_request_83 : decode cX6_request 83 = .ok (.getfield 105, 3) := by decide +kernel
theorem dX6_request_86 : decode cX6_request 86 = .ok (.iload 4, 2) := by decide +kernel
theorem dX6_request_88 : decode cX6_request 88 = .ok (.aload_n 0, 1) := by decide +kernel
theorem dX6_request_89 : decode cX6_request 89 = .ok (.getfield 32, 3) := by decide +kernel
theorem dX6_request_92 : decode cX6_request 92 = .ok (.iload_n 3, 1) := by decide +kernel
theorem dX6_request_93 : decode cX6_request 93 = .ok (.iaload, 1) := by decide +kernel
theorem dX6_request_94 : decode cX6_request 94 = .ok (.iastore, 1) := by decide +kernel
theorem dX6_request_95 : decode cX6_request 95 = .ok (.aload_n 0, 1) := by decide +kernel
theorem dX6_request_96 : decode cX6_request 96 = .ok (.getfield 108, 3) := by decide +kernel
theorem dX6_request_99 : decode cX6_request 99 = .ok (.iload 4, 2) := by decide +kernel
theorem dX6_request_101 : decode cX6_request 101 = .ok (.aload_n 0, 1) := by decide +kernel
theorem dX6_request_102 : decode cX6_request 102 = .ok (.getfield 35, 3) := by decide +kernel
theorem dX6_request_105 : decode cX6_request 105 = .ok (.iload_n 3, 1) := by decide +kernel
theorem dX6_request_106 : decode cX6_request 106 = .ok (.laload, 1) := by decide +kernel
theorem dX6_request_107 : decode cX6_request 107 = .ok (.lastore, 1) := by decide +kernel
theorem dX6_request_108 : decode cX6_request 108 = .ok (.aload_n 0, 1) := by decide +kernel
theorem dX6_request_109 : decode cX6_request 109 = .ok (.getfield 111, 3) := by decide +kernel
theorem dX6_request_112 : decode cX6_request 112 = .ok (.iload 4, 2) := by decide +kernel
theorem dX6_request_114 : decode cX6_request 114 = .ok (.aload_n 0, 1) := by decide +kernel
theorem dX6_request_115 : decode cX6_request 115 = .ok (.getfield 38, 3) := by decide +kernel
theorem dX6_request_118 : decode cX6_request 118 = .ok (.iload_n 3, 1) := by decide +kernel
theorem dX6_request_119 : decode cX6_request 119 = .ok (.laload, 1) := by decide +kernel
theorem dX6_request_120 : decode cX6_request 120 = .ok (.lastore, 1) := by decide +kernel
theorem dX6_request_121 : decode cX6_request 121 = .ok (.aload_n 0, 1) := by decide +kernel
theorem dX6_request_122 : decode cX6_request 122 = .ok (.iload 4, 2) := by decide +kernel
theorem dX6_request_124 : decode cX6_request 124 = .ok (.invokevirtual 168, 3) := by decide +kernel
theorem dX6_request_127 : decode cX6_request 127 = .ok (.return_, 1) := by decide +kernel
theorem dX6_call_0 : decode cX6_call 0 = .ok (.iload_n 1, 1) := by decide +kernel
theorem dX6_call_1 : decode cX6_call 1 = .ok (.invokestatic 172, 3) := by decide +kernel
theorem dX6_call_4 : decode cX6_call 4 = .ok (.ifCond .eq 22, 3) := by decide +kernel
theorem dX6_call_7 : decode cX6_call 7 = .ok (.iload_n 2, 1) := by decide +kernel
theorem dX6_call_8 : decode cX6_call 8 = .ok (.iconst 0, 1) := by decide +kernel
theorem dX6_call_9 : decode cX6_call 9 = .ok (.bipush 31, 2) := by decide +kernel
theorem dX6_call_11 : decode cX6_call 11 = .ok (.invokestatic 152, 3) := by decide +kernel
theorem dX6_call_14 : decode cX6_call 14 = .ok (.ifCond .eq 12, 3) := by decide +kernel
theorem dX6_call_17 : decode cX6_call 17 = .ok (.iload_n 3, 1) := by decide +kernel
theorem dX6_call_18 : decode cX6_call 18 = .ok (.iconst 0, 1) := by decide +kernel
theorem dX6_call_19 : decode cX6_call 19 = .ok (.iconst 3, 1) := by decide +kernel
theorem dX6_call_20 : decode cX6_call 20 = .ok (.invokestatic 152, 3) := by decide +kernel
theorem dX6_call_23 : decode cX6_call 23 = .ok (.ifCond .ne 5, 3) := by decide +kernel
theorem dX6_call_26 : decode cX6_call 26 = .ok (.iconst (-1), 1) := by decide +kernel
theorem dX6_call_27 : decode cX6_call 27 = .ok (.ireturn, 1) := by decide +kernel
theorem dX6_call_28 : decode cX6_call 28 = .ok (.aload_n 0, 1) := by decide +kernel
theorem dX6_call_29 : decode cX6_call 29 = .ok (.getfield 7, 3) := by decide +kernel
theorem dX6_call_32 : decode cX6_call 32 = .ok (.iload_n 1, 1) := by decide +kernel
theorem dX6_call_33 : decode cX6_call 33 = .ok (.iaload, 1) := by decide +kernel
theorem dX6_call_34 : decode cX6_call 34 = .ok (.ifCond .ne 6, 3) := by decide +kernel
theorem dX6_call_37 : decode cX6_call 37 = .ok (.bipush (-3), 2) := by decide +kernel
theorem dX6_call_39 : decode cX6_call 39 = .ok (.ireturn, 1) := by decide +kernel
theorem dX6_call_40 : decode cX6_call 40 = .ok (.aload_n 0, 1) := by decide +kernel
theorem dX6_call_41 : decode cX6_call 41 = .ok (.iload_n 1, 1) := by decide +kernel
theorem dX6_call_42 : decode cX6_call 42 = .ok (.invokevirtual 190, 3) := by decide +kernel
theorem dX6_call_45 : decode cX6_call 45 = .ok (.iconst 4, 1) := by decide +kernel
theorem dX6_call_46 : decode cX6_call 46 = .ok (.if_icmp .eq 14, 3) := by decide +kernel
theorem dX6_call_49 : decode cX6_call 49 = .ok (.aload_n 0, 1) := by decide +kernel
theorem dX6_call_50 : decode cX6_call 50 = .ok (.getfield 16, 3) := by decide +kernel
theorem dX6_call_53 : decode cX6_call 53 = .ok (.iload_n 1, 1) := by decide +kernel
theorem dX6_call_54 : decode cX6_call 54 = .ok (.iaload, 1) := by decide +kernel
theorem dX6_call_55 : decode cX6_call 55 = .ok (.bipush 60, 2) := by decide +kernel
theorem dX6_call_57 : decode cX6_call 57 = .ok (.if_icmp .ne 6, 3) := by decide +kernel
theorem dX6_call_60 : decode cX6_call 60 = .ok (.bipush (-2), 2) := by decide +kernel
theorem dX6_call_62 : decode cX6_call 62 = .ok (.ireturn, 1) := by decide +kernel
theorem dX6_call_63 : decode cX6_call 63 = .ok (.bipush 60, 2) := by decide +kernel
theorem dX6_call_65 : decode cX6_call 65 = .ok (.iload_n 1, 1) := by decide +kernel
theorem dX6_call_66 : decode cX6_call 66 = .ok (.imul, 1) := by decide +kernel
theorem dX6_call_67 : decode cX6_call 67 = .ok (.aload_n 0, 1) := by decide +kernel
theorem dX6_call_68 : decode cX6_call 68 = .ok (.getfield 16, 3) := by decide +kernel
theorem dX6_call_71 : decode cX6_call 71 = .ok (.iload_n 1, 1) := by decide +kernel
theorem dX6_call_72 : decode cX6_call 72 = .ok (.iaload, 1) := by decide +kernel
theorem dX6_call_73 : decode cX6_call 73 = .ok (.iadd, 1) := by decide +kernel
theorem dX6_call_74 : decode cX6_call 74 = .ok (.istore 8, 2) := by decide +kernel
theorem dX6_call_76 : decode cX6_call 76 = .ok (.aload_n 0, 1) := by decide +kernel
theorem dX6_call_77 : decode cX6_call 77 = .ok (.getfield 16, 3) := by decide +kernel
theorem dX6_call_80 : decode cX6_call 80 = .ok (.iload_n 1, 1) := by decide +kernel
theorem dX6_call_81 : decode cX6_call 81 = .ok (.dup2, 1) := by decide +kernel
theorem dX6_call_82 : decode cX6_call 82 = .ok (.iaload, 1) := by decide +kernel
theorem dX6_call_83 : decode cX6_call 83 = .ok (.iconst 1, 1) := by decide +kernel
theorem dX6_call_84 : decode cX6_call 84 = .ok (.iadd, 1) := by decide +kernel
theorem dX6_call_85 : decode cX6_call 85 = .ok (.iastore, 1) := by decide +kernel
theorem dX6_call_86 : decode cX6_call 86 = .ok (.aload_n 0, 1) := by decide +kernel
theorem dX6_call_87 : decode cX6_call 87 = .ok (.getfield 22, 3) := by decide +kernel
theorem dX6_call_90 : decode cX6_call 90 = .ok (.iload 8, 2) := by decide +kernel
theorem dX6_call_92 : decode cX6_call 92 = .ok (.iconst 0, 1) := by decide +kernel
theorem dX6_call_93 : decode cX6_call 93 = .ok (.iastore, 1) := by decide +kernel
theorem dX6_call_94 : decode cX6_call 94 = .ok (.aload_n 0, 1) := by decide +kernel
theorem dX6_call_95 : decode cX6_call 95 = .ok (.getfield 25, 3) := by decide +kernel
theorem dX6_call_98 : decode cX6_call 98 = .ok (.iload 8, 2) := by decide +kernel
theorem dX6_call_100 : decode cX6_call 100 = .ok (.lconst 0, 1) := by decide +kernel
theorem dX6_call_101 : decode cX6_call 101 = .ok (.lastore, 1) := by decide +kernel
theorem dX6_call_102 : decode cX6_call 102 = .ok (.aload_n 0, 1) := by decide +kernel
theorem dX6_call_103 : decode cX6_call 103 = .ok (.getfield 29, 3) := by decide +kernel
theorem dX6_call_106 : decode cX6_call 106 = .ok (.iload 8, 2) := by decide +kernel
theorem dX6_call_108 : decode cX6_call 108 = .ok (.iload_n 2, 1) := by decide +kernel
theorem dX6_call_109 : decode cX6_call 109 = .ok (.iastore, 1) := by decide +kernel
theorem dX6_call_110 : decode cX6_call 110 = .ok (.aload_n 0, 1) := by decide +kernel
theorem dX6_call_111 : decode cX6_call 111 = .ok (.getfield 32, 3) := by decide +kernel
theorem dX6_call_114 : decode cX6_call 114 = .ok (.iload 8, 2) := by decide +kernel
theorem dX6_call_116 : decode cX6_call 116 = .ok (.iload_n 3, 1) := by decide +kernel
theorem dX6_call_117 : decode cX6_call 117 = .ok (.iastore, 1) := by decide +kernel
theorem dX6_call_118 : decode cX6_call 118 = .ok (.aload_n 0, 1) := by decide +kernel
theorem dX6_call_119 : decode cX6_call 119 = .ok (.getfield 35, 3) := by decide +kernel
theorem dX6_call_122 : decode cX6_call 122 = .ok (.iload 8, 2) := by decide +kernel
theorem dX6_call_124 : decode cX6_call 124 = .ok (.lload 4, 2) := by decide +kernel
theorem dX6_call_126 : decode cX6_call 126 = .ok (.lastore, 1) := by decide +kernel
theorem dX6_call_127 : decode cX6_call 127 = .ok (.aload_n 0, 1) := by decide +kernel
theorem dX6_call_128 : decode cX6_call 128 = .ok (.getfield 38, 3) := by decide +kernel
theorem dX6_call_131 : decode cX6_call 131 = .ok (.iload 8, 2) := by decide +kernel
theorem dX6_call_133 : decode cX6_call 133 = .ok (.lload 6, 2) := by decide +kernel
theorem dX6_call_135 : decode cX6_call 135 = .ok (.lastore, 1) := by decide +kernel
theorem dX6_call_136 : decode cX6_call 136 = .ok (.aload_n 0, 1) := by decide +kernel
theorem dX6_call_137 : decode cX6_call 137 = .ok (.iload_n 1, 1) := by decide +kernel
theorem dX6_call_138 : decode cX6_call 138 = .ok (.aload_n 0, 1) := by decide +kernel
theorem dX6_call_139 : decode cX6_call 139 = .ok (.getfield 16, 3) := by decide +kernel
theorem dX6_call_142 : decode cX6_call 142 = .ok (.iload_n 1, 1) := by decide +kernel
theorem dX6_call_143 : decode cX6_call 143 = .ok (.iaload, 1) := by decide +kernel
theorem dX6_call_144 : decode cX6_call 144 = .ok (.invokevirtual 193, 3) := by decide +kernel
theorem dX6_call_147 : decode cX6_call 147 = .ok (.aload_n 0, 1) := by decide +kernel
theorem dX6_call_148 : decode cX6_call 148 = .ok (.getfield 16, 3) := by decide +kernel
theorem dX6_call_151 : decode cX6_call 151 = .ok (.iload_n 1, 1) := by decide +kernel
theorem dX6_call_152 : decode cX6_call 152 = .ok (.iaload, 1) := by decide +kernel
theorem dX6_call_153 : decode cX6_call 153 = .ok (.ireturn, 1) := by decide +kernel
theorem dX6_isCall_0 : decode cX6_isCall 0 = .ok (.iload_n 1, 1) := by decide +kernel
theorem dX6_isCall_1 : decode cX6_isCall 1 = .ok (.invokestatic 172, 3) := by decide +kernel
theorem dX6_isCall_4 : decode cX6_isCall 4 = .ok (.ifCond .eq 21, 3) := by decide +kernel
theorem dX6_isCall_7 : decode cX6_isCall 7 = .ok (.iload_n 2, 1) := by decide +kernel
theorem dX6_isCall_8 : decode cX6_isCall 8 = .ok (.iconst 1, 1) := by decide +kernel
theorem dX6_isCall_9 : decode cX6_isCall 9 = .ok (.aload_n 0, 1) := by decide +kernel
theorem dX6_isCall_10 : decode cX6_isCall 10 = .ok (.getfield 16, 3) := by decide +kernel
theorem dX6_isCall_13 : decode cX6_isCall 13 = .ok (.iload_n 1, 1) := by decide +kernel
theorem dX6_isCall_14 : decode cX6_isCall 14 = .ok (.iaload, 1) := by decide +kernel
theorem dX6_isCall_15 : decode cX6_isCall 15 = .ok (.invokestatic 152, 3) := by decide +kernel
theorem dX6_isCall_18 : decode cX6_isCall 18 = .ok (.ifCond .eq 7, 3) := by decide +kernel
theorem dX6_isCall_21 : decode cX6_isCall 21 = .ok (.iconst 1, 1) := by decide +kernel
theorem dX6_isCall_22 : decode cX6_isCall 22 = .ok (.goto 4, 3) := by decide +kernel
theorem dX6_isCall_25 : decode cX6_isCall 25 = .ok (.iconst 0, 1) := by decide +kernel
theorem dX6_isCall_26 : decode cX6_isCall 26 = .ok (.ireturn, 1) := by decide +kernel
theorem dX6_retry_0 : decode cX6_retry 0 = .ok (.aload_n 0, 1) := by decide +kernel
theorem dX6_retry_1 : decode cX6_retry 1 = .ok (.iload_n 1, 1) := by decide +kernel
theorem dX6_retry_2 : decode cX6_retry 2 = .ok (.iload_n 2, 1) := by decide +kernel
theorem dX6_retry_3 : decode cX6_retry 3 = .ok (.invokevirtual 197, 3) := by decide +kernel
theorem dX6_retry_6 : decode cX6_retry 6 = .ok (.ifCond .ne 5, 3) := by decide +kernel
theorem dX6_retry_9 : decode cX6_retry 9 = .ok (.iconst (-1), 1) := by decide +kernel
theorem dX6_retry_10 : decode cX6_retry 10 = .ok (.ireturn, 1) := by decide +kernel
theorem dX6_retry_11 : decode cX6_retry 11 = .ok (.aload_n 0, 1) := by decide +kernel
theorem dX6_retry_12 : decode cX6_retry 12 = .ok (.getfield 22, 3) := by decide +kernel
theorem dX6_retry_15 : decode cX6_retry 15 = .ok (.bipush 60, 2) := by decide +kernel
theorem dX6_retry_17 : decode cX6_retry 17 = .ok (.iload_n 1, 1) := by decide +kernel
theorem dX6_retry_18 : decode cX6_retry 18 = .ok (.imul, 1) := by decide +kernel
theorem dX6_retry_19 : decode cX6_retry 19 = .ok (.iload_n 2, 1) := by decide +kernel
theorem dX6_retry_20 : decode cX6_retry 20 = .ok (.iadd, 1) := by decide +kernel
theorem dX6_retry_21 : decode cX6_retry 21 = .ok (.iconst 1, 1) := by decide +kernel
theorem dX6_retry_22 : decode cX6_retry 22 = .ok (.isub, 1) := by decide +kernel
theorem dX6_retry_23 : decode cX6_retry 23 = .ok (.iaload, 1) := by decide +kernel
theorem dX6_retry_24 : decode cX6_retry 24 = .ok (.ifCond .eq 5, 3) := by decide +kernel
theorem dX6_retry_27 : decode cX6_retry 27 = .ok (.iconst 0, 1) := by decide +kernel
theorem dX6_retry_28 : decode cX6_retry 28 = .ok (.ireturn, 1) := by decide +kernel
theorem dX6_retry_29 : decode cX6_retry 29 = .ok (.aload_n 0, 1) := by decide +kernel
theorem dX6_retry_30 : decode cX6_retry 30 = .ok (.iload_n 1, 1) := by decide +kernel
theorem dX6_retry_31 : decode cX6_retry 31 = .ok (.iload_n 2, 1) := by decide +kernel
theorem dX6_retry_32 : decode cX6_retry 32 = .ok (.invokevirtual 193, 3) := by decide +kernel
theorem dX6_retry_35 : decode cX6_retry 35 = .ok (.iconst 1, 1) := by decide +kernel
theorem dX6_retry_36 : decode cX6_retry 36 = .ok (.ireturn, 1) := by decide +kernel
theorem dX6_ack_0 : decode cX6_ack 0 = .ok (.iload_n 1, 1) := by decide +kernel
theorem dX6_ack_1 : decode cX6_ack 1 = .ok (.invokestatic 172, 3) := by decide +kernel
theorem dX6_ack_4 : decode cX6_ack 4 = .ok (.ifCond .eq 11, 3) := by decide +kernel
theorem dX6_ack_7 : decode cX6_ack 7 = .ok (.aload_n 0, 1) := by decide +kernel
theorem dX6_ack_8 : decode cX6_ack 8 = .ok (.iload_n 2, 1) := by decide +kernel
theorem dX6_ack_9 : decode cX6_ack 9 = .ok (.invokevirtual 201, 3) := by decide +kernel
theorem dX6_ack_12 : decode cX6_ack 12 = .ok (.ifCond .ne 5, 3) := by decide +kernel
theorem dX6_ack_15 : decode cX6_ack 15 = .ok (.iconst (-1), 1) := by decide +kernel
theorem dX6_ack_16 : decode cX6_ack 16 = .ok (.ireturn, 1) := by decide +kernel
theorem dX6_ack_17 : decode cX6_ack 17 = .ok (.aload_n 0, 1) := by decide +kernel
theorem dX6_ack_18 : decode cX6_ack 18 = .ok (.getfield 7, 3) := by decide +kernel
theorem dX6_ack_21 : decode cX6_ack 21 = .ok (.iload_n 1, 1) := by decide +kernel
theorem dX6_ack_22 : decode cX6_ack 22 = .ok (.iaload, 1) := by decide +kernel
theorem dX6_ack_23 : decode cX6_ack 23 = .ok (.ifCond .ne 6, 3) := by decide +kernel
theorem dX6_ack_26 : decode cX6_ack 26 = .ok (.bipush (-3), 2) := by decide +kernel
theorem dX6_ack_28 : decode cX6_ack 28 = .ok (.ireturn, 1) := by decide +kernel
theorem dX6_ack_29 : decode cX6_ack 29 = .ok (.aload_n 0, 1) := by decide +kernel
theorem dX6_ack_30 : decode cX6_ack 30 = .ok (.iconst 5, 1) := by decide +kernel
theorem dX6_ack_31 : decode cX6_ack 31 = .ok (.iload_n 2, 1) := by decide +kernel
theorem dX6_ack_32 : decode cX6_ack 32 = .ok (.iload_n 1, 1) := by decide +kernel
theorem dX6_ack_33 : decode cX6_ack 33 = .ok (.invokevirtual 182, 3) := by decide +kernel
theorem dX6_ack_36 : decode cX6_ack 36 = .ok (.istore_n 3, 1) := by decide +kernel
theorem dX6_ack_37 : decode cX6_ack 37 = .ok (.aload_n 0, 1) := by decide +kernel
theorem dX6_ack_38 : decode cX6_ack 38 = .ok (.getfield 93, 3) := by decide +kernel
theorem dX6_ack_41 : decode cX6_ack 41 = .ok (.iload_n 3, 1) := by decide +kernel
theorem dX6_ack_42 : decode cX6_ack 42 = .ok (.aload_n 0, 1) := by decide +kernel
theorem dX6_ack_43 : decode cX6_ack 43 = .ok (.getfield 7, 3) := by decide +kernel
theorem dX6_ack_46 : decode cX6_ack 46 = .ok (.iload_n 1, 1) := by decide +kernel
theorem dX6_ack_47 : decode cX6_ack 47 = .ok (.iaload, 1) := by decide +kernel
theorem dX6_ack_48 : decode cX6_ack 48 = .ok (.iastore, 1) := by decide +kernel
theorem dX6_ack_49 : decode cX6_ack 49 = .ok (.aload_n 0, 1) := by decide +kernel
theorem dX6_ack_50 : decode cX6_ack 50 = .ok (.getfield 96, 3) := by decide +kernel
theorem dX6_ack_53 : decode cX6_ack 53 = .ok (.iload_n 3, 1) := by decide +kernel
theorem dX6_ack_54 : decode cX6_ack 54 = .ok (.aload_n 0, 1) := by decide +kernel
theorem dX6_ack_55 : decode cX6_ack 55 = .ok (.iload_n 1, 1) := by decide +kernel
theorem dX6_ack_56 : decode cX6_ack 56 = .ok (.invokevirtual 186, 3) := by decide +kernel
theorem dX6_ack_59 : decode cX6_ack 59 = .ok (.iastore, 1) := by decide +kernel
theorem dX6_ack_60 : decode cX6_ack 60 = .ok (.aload_n 0, 1) := by decide +kernel
theorem dX6_ack_61 : decode cX6_ack 61 = .ok (.getfield 96, 3) := by decide +kernel
theorem dX6_ack_64 : decode cX6_ack 64 = .ok (.iload_n 3, 1) := by decide +kernel
theorem dX6_ack_65 : decode cX6_ack 65 = .ok (.iaload, 1) := by decide +kernel
theorem dX6_ack_66 : decode cX6_ack 66 = .ok (.istore 4, 2) := by decide +kernel
theorem dX6_ack_68 : decode cX6_ack 68 = .ok (.aload_n 0, 1) := by decide +kernel
theorem dX6_ack_69 : decode cX6_ack 69 = .ok (.iload_n 3, 1) := by decide +kernel
theorem dX6_ack_70 : decode cX6_ack 70 = .ok (.invokevirtual 168, 3) := by decide +kernel
theorem dX6_ack_73 : decode cX6_ack 73 = .ok (.iload 4, 2) := by decide +kernel
theorem dX6_ack_75 : decode cX6_ack 75 = .ok (.ireturn, 1) := by decide +kernel
theorem dX6_answered_0 : decode cX6_answered 0 = .ok (.aload_n 0, 1) := by decide +kernel
theorem dX6_answered_1 : decode cX6_answered 1 = .ok (.getfield 87, 3) := by decide +kernel
theorem dX6_answered_4 : decode cX6_answered 4 = .ok (.iload_n 1, 1) := by decide +kernel
theorem dX6_answered_5 : decode cX6_answered 5 = .ok (.iaload, 1) := by decide +kernel
theorem dX6_answered_6 : decode cX6_answered 6 = .ok (.istore_n 2, 1) := by decide +kernel
theorem dX6_answered_7 : decode cX6_answered 7 = .ok (.aload_n 0, 1) := by decide +kernel
theorem dX6_answered_8 : decode cX6_answered 8 = .ok (.getfield 93, 3) := by decide +kernel
theorem dX6_answered_11 : decode cX6_answered 11 = .ok (.iload_n 1, 1) := by decide +kernel
theorem dX6_answered_12 : decode cX6_answered 12 = .ok (.iaload, 1) := by decide +kernel
theorem dX6_answered_13 : decode cX6_answered 13 = .ok (.aload_n 0, 1) := by decide +kernel
theorem dX6_answered_14 : decode cX6_answered 14 = .ok (.getfield 7, 3) := by decide +kernel
theorem dX6_answered_17 : decode cX6_answered 17 = .ok (.iload_n 2, 1) := by decide +kernel
theorem dX6_answered_18 : decode cX6_answered 18 = .ok (.iaload, 1) := by decide +kernel
theorem dX6_answered_19 : decode cX6_answered 19 = .ok (.if_icmp .ne 17, 3) := by decide +kernel
theorem dX6_answered_22 : decode cX6_answered 22 = .ok (.aload_n 0, 1) := by decide +kernel
theorem dX6_answered_23 : decode cX6_answered 23 = .ok (.iload_n 2, 1) := by decide +kernel
theorem dX6_answered_24 : decode cX6_answered 24 = .ok (.aload_n 0, 1) := by decide +kernel
theorem dX6_answered_25 : decode cX6_answered 25 = .ok (.getfield 96, 3) := by decide +kernel
theorem dX6_answered_28 : decode cX6_answered 28 = .ok (.iload_n 1, 1) := by decide +kernel
theorem dX6_answered_29 : decode cX6_answered 29 = .ok (.iaload, 1) := by decide +kernel
theorem dX6_answered_30 : decode cX6_answered 30 = .ok (.invokevirtual 197, 3) := by decide +kernel
theorem dX6_answered_33 : decode cX6_answered 33 = .ok (.ifCond .ne 4, 3) := by decide +kernel
theorem dX6_answered_36 : decode cX6_answered 36 = .ok (.return_, 1) := by decide +kernel
theorem dX6_answered_37 : decode cX6_answered 37 = .ok (.bipush 60, 2) := by decide +kernel
theorem dX6_answered_39 : decode cX6_answered 39 = .ok (.iload_n 2, 1) := by decide +kernel
theorem dX6_answered_40 : decode cX6_answered 40 = .ok (.imul, 1) := by decide +kernel
theorem dX6_answered_41 : decode cX6_answered 41 = .ok (.aload_n 0, 1) := by decide +kernel
theorem dX6_answered_42 : decode cX6_answered 42 = .ok (.getfield 96, 3) := by decide +kernel
theorem dX6_answered_45 : decode cX6_answered 45 = .ok (.iload_n 1, 1) := by decide +kernel
theorem dX6_answered_46 : decode cX6_answered 46 = .ok (.iaload, 1) := by decide +kernel
theorem dX6_answered_47 : decode cX6_answered 47 = .ok (.iadd, 1) := by decide +kernel
theorem dX6_answered_48 : decode cX6_answered 48 = .ok (.iconst 1, 1) := by decide +kernel
theorem dX6_answered_49 : decode cX6_answered 49 = .ok (.isub, 1) := by decide +kernel
theorem dX6_answered_50 : decode cX6_answered 50 = .ok (.istore_n 3, 1) := by decide +kernel
theorem dX6_answered_51 : decode cX6_answered 51 = .ok (.aload_n 0, 1) := by decide +kernel
theorem dX6_answered_52 : decode cX6_answered 52 = .ok (.getfield 22, 3) := by decide +kernel
theorem dX6_answered_55 : decode cX6_answered 55 = .ok (.iload_n 3, 1) := by decide +kernel
theorem dX6_answered_56 : decode cX6_answered 56 = .ok (.iaload, 1) := by decide +kernel
theorem dX6_answered_57 : decode cX6_answered 57 = .ok (.ifCond .eq 4, 3) := by decide +kernel
theorem dX6_answered_60 : decode cX6_answered 60 = .ok (.return_, 1) := by decide +kernel
theorem dX6_answered_61 : decode cX6_answered 61 = .ok (.aload_n 0, 1) := by decide +kernel
theorem dX6_answered_62 : decode cX6_answered 62 = .ok (.getfield 99, 3) := by decide +kernel
theorem dX6_answered_65 : decode cX6_answered 65 = .ok (.iload_n 1, 1) := by decide +kernel
theorem dX6_answered_66 : decode cX6_answered 66 = .ok (.iaload, 1) := by decide +kernel
theorem dX6_answered_67 : decode cX6_answered 67 = .ok (.ifCond .ne 35, 3) := by decide +kernel
theorem dX6_answered_70 : decode cX6_answered 70 = .ok (.aload_n 0, 1) := by decide +kernel
theorem dX6_answered_71 : decode cX6_answered 71 = .ok (.getfield 22, 3) := by decide +kernel
theorem dX6_answered_74 : decode cX6_answered 74 = .ok (.iload_n 3, 1) := by decide +kernel
theorem dX6_answered_75 : decode cX6_answered 75 = .ok (.iconst 1, 1) := by decide +kernel
theorem dX6_answered_76 : decode cX6_answered 76 = .ok (.iastore, 1) := by decide +kernel
theorem dX6_answered_77 : decode cX6_answered 77 = .ok (.aload_n 0, 1) := by decide +kernel
theorem dX6_answered_78 : decode cX6_answered 78 = .ok (.getfield 25, 3) := by decide +kernel
theorem dX6_answered_81 : decode cX6_answered 81 = .ok (.iload_n 3, 1) := by decide +kernel
theorem dX6_answered_82 : decode cX6_answered 82 = .ok (.aload_n 0, 1) := by decide +kernel
theorem dX6_answered_83 : decode cX6_answered 83 = .ok (.getfield 108, 3) := by decide +kernel
theorem dX6_answered_86 : decode cX6_answered 86 = .ok (.iload_n 1, 1) := by decide +kernel
theorem dX6_answered_87 : decode cX6_answered 87 = .ok (.laload, 1) := by decide +kernel
theorem dX6_answered_88 : decode cX6_answered 88 = .ok (.lastore, 1) := by decide +kernel
theorem dX6_answered_89 : decode cX6_answered 89 = .ok (.aload_n 0, 1) := by decide +kernel
theorem dX6_answered_90 : decode cX6_answered 90 = .ok (.dup, 1) := by decide +kernel
theorem dX6_answered_91 : decode cX6_answered 91 = .ok (.getfield 204, 3) := by decide +kernel
theorem dX6_answered_94 : decode cX6_answered 94 = .ok (.iconst 1, 1) := by decide +kernel
theorem dX6_answered_95 : decode cX6_answered 95 = .ok (.iadd, 1) := by decide +kernel
theorem dX6_answered_96 : decode cX6_answered 96 = .ok (.putfield 204, 3) := by decide +kernel
theorem dX6_answered_99 : decode cX6_answered 99 = .ok (.goto 100, 3) := by decide +kernel
theorem dX6_answered_102 : decode cX6_answered 102 = .ok (.aload_n 0, 1) := by decide +kernel
theorem dX6_answered_103 : decode cX6_answered 103 = .ok (.getfield 99, 3) := by decide +kernel
theorem dX6_answered_106 : decode cX6_answered 106 = .ok (.iload_n 1, 1) := by decide +kernel
theorem dX6_answered_107 : decode cX6_answered 107 = .ok (.iaload, 1) := by decide +kernel
theorem dX6_answered_108 : decode cX6_answered 108 = .ok (.iconst 1, 1) := by decide +kernel
theorem dX6_answered_109 : decode cX6_answered 109 = .ok (.if_icmp .ne 32, 3) := by decide +kernel
theorem dX6_answered_112 : decode cX6_answered 112 = .ok (.aload_n 0, 1) := by decide +kernel
theorem dX6_answered_113 : decode cX6_answered 113 = .ok (.getfield 19, 3) := by decide +kernel
theorem dX6_answered_116 : decode cX6_answered 116 = .ok (.bipush 8, 2) := by decide +kernel
theorem dX6_answered_118 : decode cX6_answered 118 = .ok (.iload_n 2, 1) := by decide +kernel
theorem dX6_answered_119 : decode cX6_answered 119 = .ok (.imul, 1) := by decide +kernel
theorem dX6_answered_120 : decode cX6_answered 120 = .ok (.aload_n 0, 1) := by decide +kernel
theorem dX6_answered_121 : decode cX6_answered 121 = .ok (.getfield 29, 3) := by decide +kernel
theorem dX6_answered_124 : decode cX6_answered 124 = .ok (.iload_n 3, 1) := by decide +kernel
theorem dX6_answered_125 : decode cX6_answered 125 = .ok (.iaload, 1) := by decide +kernel
theorem dX6_answered_126 : decode cX6_answered 126 = .ok (.bipush 8, 2) := by decide +kernel
theorem dX6_answered_128 : decode cX6_answered 128 = .ok (.irem, 1) := by decide +kernel
theorem dX6_answered_129 : decode cX6_answered 129 = .ok (.iadd, 1) := by decide +kernel
theorem dX6_answered_130 : decode cX6_answered 130 = .ok (.aload_n 0, 1) := by decide +kernel
theorem dX6_answered_131 : decode cX6_answered 131 = .ok (.getfield 108, 3) := by decide +kernel
theorem dX6_answered_134 : decode cX6_answered 134 = .ok (.iload_n 1, 1) := by decide +kernel
theorem dX6_answered_135 : decode cX6_answered 135 = .ok (.laload, 1) := by decide +kernel
theorem dX6_answered_136 : decode cX6_answered 136 = .ok (.l2i, 1) := by decide +kernel
theorem dX6_answered_137 : decode cX6_answered 137 = .ok (.iastore, 1) := by decide +kernel
theorem dX6_answered_138 : decode cX6_answered 138 = .ok (.goto 61, 3) := by decide +kernel
theorem dX6_answered_141 : decode cX6_answered 141 = .ok (.aload_n 0, 1) := by decide +kernel
theorem dX6_answered_142 : decode cX6_answered 142 = .ok (.getfield 99, 3) := by decide +kernel
theorem dX6_answered_145 : decode cX6_answered 145 = .ok (.iload_n 1, 1) := by decide +kernel
theorem dX6_answered_146 : decode cX6_answered 146 = .ok (.iaload, 1) := by decide +kernel
theorem dX6_answered_147 : decode cX6_answered 147 = .ok (.iconst 3, 1) := by decide +kernel
theorem dX6_answered_148 : decode cX6_answered 148 = .ok (.if_icmp .ne 51, 3) := by decide +kernel
theorem dX6_answered_151 : decode cX6_answered 151 = .ok (.iconst 0, 1) := by decide +kernel
theorem dX6_answered_152 : decode cX6_answered 152 = .ok (.istore 4, 2) := by decide +kernel
theorem dX6_answered_154 : decode cX6_answered 154 = .ok (.iload 4, 2) := by decide +kernel
theorem dX6_answered_156 : decode cX6_answered 156 = .ok (.aload_n 0, 1) := by decide +kernel
theorem dX6_answered_157 : decode cX6_answered 157 = .ok (.getfield 16, 3) := by decide +kernel
theorem dX6_answered_160 : decode cX6_answered 160 = .ok (.iload_n 2, 1) := by decide +kernel
theorem dX6_answered_161 : decode cX6_answered 161 = .ok (.iaload, 1) := by decide +kernel
theorem dX6_answered_162 : decode cX6_answered 162 = .ok (.if_icmp .ge 37, 3) := by decide +kernel
theorem dX6_answered_165 : decode cX6_answered 165 = .ok (.aload_n 0, 1) := by decide +kernel
theorem dX6_answered_166 : decode cX6_answered 166 = .ok (.getfield 22, 3) := by decide +kernel
theorem dX6_answered_169 : decode cX6_answered 169 = .ok (.bipush 60, 2) := by decide +kernel
theorem dX6_answered_171 : decode cX6_answered 171 = .ok (.iload_n 2, 1) := by decide +kernel
theorem dX6_answered_172 : decode cX6_answered 172 = .ok (.imul, 1) := by decide +kernel
theorem dX6_answered_173 : decode cX6_answered 173 = .ok (.iload 4, 2) := by decide +kernel
theorem dX6_answered_175 : decode cX6_answered 175 = .ok (.iadd, 1) := by decide +kernel
theorem dX6_answered_176 : decode cX6_answered 176 = .ok (.iaload, 1) := by decide +kernel
theorem dX6_answered_177 : decode cX6_answered 177 = .ok (.ifCond .ne 16, 3) := by decide +kernel
theorem dX6_answered_180 : decode cX6_answered 180 = .ok (.aload_n 0, 1) := by decide +kernel
theorem dX6_answered_181 : decode cX6_answered 181 = .ok (.getfield 22, 3) := by decide +kernel
theorem dX6_answered_184 : decode cX6_answered 184 = .ok (.bipush 60, 2) := by decide +kernel
theorem dX6_answered_186 : decode cX6_answered 186 = .ok (.iload_n 2, 1) := by decide +kernel
theorem dX6_answered_187 : decode cX6_answered 187 = .ok (.imul, 1) := by decide +kernel
theorem dX6_answered_188 : decode cX6_answered 188 = .ok (.iload 4, 2) := by decide +kernel
theorem dX6_answered_190 : decode cX6_answered 190 = .ok (.iadd, 1) := by decide +kernel
theorem dX6_answered_191 : decode cX6_answered 191 = .ok (.iconst 2, 1) := by decide +kernel
theorem dX6_answered_192 : decode cX6_answered 192 = .ok (.iastore, 1) := by decide +kernel
theorem dX6_answered_193 : decode cX6_answered 193 = .ok (.iinc 4 1, 3) := by decide +kernel
theorem dX6_answered_196 : decode cX6_answered 196 = .ok (.goto (-42), 3) := by decide +kernel
theorem dX6_answered_199 : decode cX6_answered 199 = .ok (.return_, 1) := by decide +kernel
theorem dX6_forget_0 : decode cX6_forget 0 = .ok (.aload_n 0, 1) := by decide +kernel
theorem dX6_forget_1 : decode cX6_forget 1 = .ok (.getfield 53, 3) := by decide +kernel
theorem dX6_forget_4 : decode cX6_forget 4 = .ok (.iload_n 1, 1) := by decide +kernel
theorem dX6_forget_5 : decode cX6_forget 5 = .ok (.dup2, 1) := by decide +kernel
theorem dX6_forget_6 : decode cX6_forget 6 = .ok (.iaload, 1) := by decide +kernel
theorem dX6_forget_7 : decode cX6_forget 7 = .ok (.iconst 1, 1) := by decide +kernel
theorem dX6_forget_8 : decode cX6_forget 8 = .ok (.isub, 1) := by decide +kernel
theorem dX6_forget_9 : decode cX6_forget 9 = .ok (.iastore, 1) := by decide +kernel
theorem dX6_forget_10 : decode cX6_forget 10 = .ok (.iload_n 2, 1) := by decide +kernel
theorem dX6_forget_11 : decode cX6_forget 11 = .ok (.istore_n 3, 1) := by decide +kernel
theorem dX6_forget_12 : decode cX6_forget 12 = .ok (.iload_n 3, 1) := by decide +kernel
theorem dX6_forget_13 : decode cX6_forget 13 = .ok (.aload_n 0, 1) := by decide +kernel
theorem dX6_forget_14 : decode cX6_forget 14 = .ok (.getfield 53, 3) := by decide +kernel
theorem dX6_forget_17 : decode cX6_forget 17 = .ok (.iload_n 1, 1) := by decide +kernel
theorem dX6_forget_18 : decode cX6_forget 18 = .ok (.iaload, 1) := by decide +kernel
theorem dX6_forget_19 : decode cX6_forget 19 = .ok (.if_icmp .ge 81, 3) := by decide +kernel
theorem dX6_forget_22 : decode cX6_forget 22 = .ok (.bipush 12, 2) := by decide +kernel
theorem dX6_forget_24 : decode cX6_forget 24 = .ok (.iload_n 1, 1) := by decide +kernel
theorem dX6_forget_25 : decode cX6_forget 25 = .ok (.imul, 1) := by decide +kernel
theorem dX6_forget_26 : decode cX6_forget 26 = .ok (.iload_n 3, 1) := by decide +kernel
theorem dX6_forget_27 : decode cX6_forget 27 = .ok (.iadd, 1) := by decide +kernel
theorem dX6_forget_28 : decode cX6_forget 28 = .ok (.istore 4, 2) := by decide +kernel
theorem dX6_forget_30 : decode cX6_forget 30 = .ok (.aload_n 0, 1) := by decide +kernel
theorem dX6_forget_31 : decode cX6_forget 31 = .ok (.getfield 56, 3) := by decide +kernel
theorem dX6_forget_34 : decode cX6_forget 34 = .ok (.iload 4, 2) := by decide +kernel
theorem dX6_forget_36 : decode cX6_forget 36 = .ok (.aload_n 0, 1) := by decide +kernel
theorem dX6_forget_37 : decode cX6_forget 37 = .ok (.getfield 56, 3) := by decide +kernel
theorem dX6_forget_40 : decode cX6_forget 40 = .ok (.iload 4, 2) := by decide +kernel
theorem dX6_forget_42 : decode cX6_forget 42 = .ok (.iconst 1, 1) := by decide +kernel
theorem dX6_forget_43 : decode cX6_forget 43 = .ok (.iadd, 1) := by decide +kernel
theorem dX6_forget_44 : decode cX6_forget 44 = .ok (.iaload, 1) := by decide +kernel
theorem dX6_forget_45 : decode cX6_forget 45 = .ok (.iastore, 1) := by decide +kernel
theorem dX6_forget_46 : decode cX6_forget 46 = .ok (.aload_n 0, 1) := by decide +kernel
theorem dX6_forget_47 : decode cX6_forget 47 = .ok (.getfield 59, 3) := by decide +kernel
theorem dX6_forget_50 : decode cX6_forget 50 = .ok (.iload 4, 2) := by decide +kernel
theorem dX6_forget_52 : decode cX6_forget 52 = .ok (.aload_n 0, 1) := by decide +kernel
theorem dX6_forget_53 : decode cX6_forget 53 = .ok (.getfield 59, 3) := by decide +kernel
theorem dX6_forget_56 : decode cX6_forget 56 = .ok (.iload 4, 2) := by decide +kernel
theorem dX6_forget_58 : decode cX6_forget 58 = .ok (.iconst 1, 1) := by decide +kernel
theorem dX6_forget_59 : decode cX6_forget 59 = .ok (.iadd, 1) := by decide +kernel
theorem dX6_forget_60 : decode cX6_forget 60 = .ok (.iaload, 1) := by decide +kernel
theorem dX6_forget_61 : decode cX6_forget 61 = .ok (.iastore, 1) := by decide +kernel
theorem dX6_forget_62 : decode cX6_forget 62 = .ok (.aload_n 0, 1) := by decide +kernel
theorem dX6_forget_63 : decode cX6_forget 63 = .ok (.getfield 62, 3) := by decide +kernel
theorem dX6_forget_66 : decode cX6_forget 66 = .ok (.iload 4, 2) := by decide +kernel
theorem dX6_forget_68 : decode cX6_forget 68 = .ok (.aload_n 0, 1) := by decide +kernel
theorem dX6_forget_69 : decode cX6_forget 69 = .ok (.getfield 62, 3) := by decide +kernel
theorem dX6_forget_72 : decode cX6_forget 72 = .ok (.iload 4, 2) := by decide +kernel
theorem dX6_forget_74 : decode cX6_forget 74 = .ok (.iconst 1, 1) := by decide +kernel
theorem dX6_forget_75 : decode cX6_forget 75 = .ok (.iadd, 1) := by decide +kernel
theorem dX6_forget_76 : decode cX6_forget 76 = .ok (.iaload, 1) := by decide +kernel
theorem dX6_forget_77 : decode cX6_forget 77 = .ok (.iastore, 1) := by decide +kernel
theorem dX6_forget_78 : decode cX6_forget 78 = .ok (.aload_n 0, 1) := by decide +kernel
theorem dX6_forget_79 : decode cX6_forget 79 = .ok (.getfield 65, 3) := by decide +kernel
theorem dX6_forget_82 : decode cX6_forget 82 = .ok (.iload 4, 2) := by decide +kernel
theorem dX6_forget_84 : decode cX6_forget 84 = .ok (.aload_n 0, 1) := by decide +kernel
theorem dX6_forget_85 : decode cX6_forget 85 = .ok (.getfield 65, 3) := by decide +kernel
theorem dX6_forget_88 : decode cX6_forget 88 = .ok (.iload 4, 2) := by decide +kernel
theorem dX6_forget_90 : decode cX6_forget 90 = .ok (.iconst 1, 1) := by decide +kernel
theorem dX6_forget_91 : decode cX6_forget 91 = .ok (.iadd, 1) := by decide +kernel
theorem dX6_forget_92 : decode cX6_forget 92 = .ok (.laload, 1) := by decide +kernel
theorem dX6_forget_93 : decode cX6_forget 93 = .ok (.lastore, 1) := by decide +kernel
theorem dX6_forget_94 : decode cX6_forget 94 = .ok (.iinc 3 1, 3) := by decide +kernel
theorem dX6_forget_97 : decode cX6_forget 97 = .ok (.goto (-85), 3) := by decide +kernel
theorem dX6_forget_100 : decode cX6_forget 100 = .ok (.return_, 1) := by decide +kernel
theorem dX6_know_0 : decode cX6_know 0 = .ok (.bipush 6, 2) := by decide +kernel
theorem dX6_know_2 : decode cX6_know 2 = .ok (.iload_n 2, 1) := by decide +kernel
theorem dX6_know_3 : decode cX6_know 3 = .ok (.imul, 1) := by decide +kernel
theorem dX6_know_4 : decode cX6_know 4 = .ok (.iload_n 3, 1) := by decide +kernel
theorem dX6_know_5 : decode cX6_know 5 = .ok (.iadd, 1) := by decide +kernel
theorem dX6_know_6 : decode cX6_know 6 = .ok (.istore 6, 2) := by decide +kernel
theorem dX6_know_8 : decode cX6_know 8 = .ok (.iload 4, 2) := by decide +kernel
theorem dX6_know_10 : decode cX6_know 10 = .ok (.aload_n 0, 1) := by decide +kernel
theorem dX6_know_11 : decode cX6_know 11 = .ok (.getfield 68, 3) := by decide +kernel
theorem dX6_know_14 : decode cX6_know 14 = .ok (.iload 6, 2) := by decide +kernel
theorem dX6_know_16 : decode cX6_know 16 = .ok (.iaload, 1) := by decide +kernel
theorem dX6_know_17 : decode cX6_know 17 = .ok (.if_icmp .le 7, 3) := by decide +kernel
theorem dX6_know_20 : decode cX6_know 20 = .ok (.iconst 1, 1) := by decide +kernel
theorem dX6_know_21 : decode cX6_know 21 = .ok (.goto 4, 3) := by decide +kernel
theorem dX6_know_24 : decode cX6_know 24 = .ok (.iconst 0, 1) := by decide +kernel
theorem dX6_know_25 : decode cX6_know 25 = .ok (.istore 7, 2) := by decide +kernel
theorem dX6_know_27 : decode cX6_know 27 = .ok (.iload 7, 2) := by decide +kernel
theorem dX6_know_29 : decode cX6_know 29 = .ok (.ifCond .ne 28, 3) := by decide +kernel
theorem dX6_know_32 : decode cX6_know 32 = .ok (.iload 4, 2) := by decide +kernel
theorem dX6_know_34 : decode cX6_know 34 = .ok (.aload_n 0, 1) := by decide +kernel
theorem dX6_know_35 : decode cX6_know 35 = .ok (.getfield 68, 3) := by decide +kernel
theorem dX6_know_38 : decode cX6_know 38 = .ok (.iload 6, 2) := by decide +kernel
theorem dX6_know_40 : decode cX6_know 40 = .ok (.iaload, 1) := by decide +kernel
theorem dX6_know_41 : decode cX6_know 41 = .ok (.if_icmp .lt 15, 3) := by decide +kernel
theorem dX6_know_44 : decode cX6_know 44 = .ok (.iload 5, 2) := by decide +kernel
theorem dX6_know_46 : decode cX6_know 46 = .ok (.aload_n 0, 1) := by decide +kernel
theorem dX6_know_47 : decode cX6_know 47 = .ok (.getfield 71, 3) := by decide +kernel
theorem dX6_know_50 : decode cX6_know 50 = .ok (.iload 6, 2) := by decide +kernel
theorem dX6_know_52 : decode cX6_know 52 = .ok (.iaload, 1) := by decide +kernel
theorem dX6_know_53 : decode cX6_know 53 = .ok (.if_icmp .gt 4, 3) := by decide +kernel
theorem dX6_know_56 : decode cX6_know 56 = .ok (.return_, 1) := by decide +kernel
theorem dX6_know_57 : decode cX6_know 57 = .ok (.aload_n 0, 1) := by decide +kernel
theorem dX6_know_58 : decode cX6_know 58 = .ok (.getfield 68, 3) := by decide +kernel
theorem dX6_know_61 : decode cX6_know 61 = .ok (.iload 6, 2) := by decide +kernel
theorem dX6_know_63 : decode cX6_know 63 = .ok (.iload 4, 2) := by decide +kernel
theorem dX6_know_65 : decode cX6_know 65 = .ok (.iastore, 1) := by decide +kernel
theorem dX6_know_66 : decode cX6_know 66 = .ok (.aload_n 0, 1) := by decide +kernel
theorem dX6_know_67 : decode cX6_know 67 = .ok (.getfield 71, 3) := by decide +kernel
theorem dX6_know_70 : decode cX6_know 70 = .ok (.iload 6, 2) := by decide +kernel
theorem dX6_know_72 : decode cX6_know 72 = .ok (.iload 5, 2) := by decide +kernel
theorem dX6_know_74 : decode cX6_know 74 = .ok (.iastore, 1) := by decide +kernel
theorem dX6_know_75 : decode cX6_know 75 = .ok (.aload_n 0, 1) := by decide +kernel
theorem dX6_know_76 : decode cX6_know 76 = .ok (.getfield 78, 3) := by decide +kernel
theorem dX6_know_79 : decode cX6_know 79 = .ok (.iload_n 1, 1) := by decide +kernel
theorem dX6_know_80 : decode cX6_know 80 = .ok (.iconst 1, 1) := by decide +kernel
theorem dX6_know_81 : decode cX6_know 81 = .ok (.bastore, 1) := by decide +kernel
theorem dX6_know_82 : decode cX6_know 82 = .ok (.aload_n 0, 1) := by decide +kernel
theorem dX6_know_83 : decode cX6_know 83 = .ok (.getfield 53, 3) := by decide +kernel
theorem dX6_know_86 : decode cX6_know 86 = .ok (.iload_n 2, 1) := by decide +kernel
theorem dX6_know_87 : decode cX6_know 87 = .ok (.iaload, 1) := by decide +kernel
theorem dX6_know_88 : decode cX6_know 88 = .ok (.iconst 1, 1) := by decide +kernel
theorem dX6_know_89 : decode cX6_know 89 = .ok (.isub, 1) := by decide +kernel
theorem dX6_know_90 : decode cX6_know 90 = .ok (.istore 8, 2) := by decide +kernel
theorem dX6_know_92 : decode cX6_know 92 = .ok (.iload 8, 2) := by decide +kernel
theorem dX6_know_94 : decode cX6_know 94 = .ok (.ifCond .lt 53, 3) := by decide +kernel
theorem dX6_know_97 : decode cX6_know 97 = .ok (.bipush 12, 2) := by decide +kernel
theorem dX6_know_99 : decode cX6_know 99 = .ok (.iload_n 2, 1) := by decide +kernel
theorem dX6_know_100 : decode cX6_know 100 = .ok (.imul, 1) := by decide +kernel
theorem dX6_know_101 : decode cX6_know 101 = .ok (.iload 8, 2) := by decide +kernel
theorem dX6_know_103 : decode cX6_know 103 = .ok (.iadd, 1) := by decide +kernel
theorem dX6_know_104 : decode cX6_know 104 = .ok (.istore 9, 2) := by decide +kernel
theorem dX6_know_106 : decode cX6_know 106 = .ok (.aload_n 0, 1) := by decide +kernel
theorem dX6_know_107 : decode cX6_know 107 = .ok (.getfield 56, 3) := by decide +kernel
theorem dX6_know_110 : decode cX6_know 110 = .ok (.iload 9, 2) := by decide +kernel
theorem dX6_know_112 : decode cX6_know 112 = .ok (.iaload, 1) := by decide +kernel
theorem dX6_know_113 : decode cX6_know 113 = .ok (.iload_n 3, 1) := by decide +kernel
theorem dX6_know_114 : decode cX6_know 114 = .ok (.if_icmp .ne 27, 3) := by decide +kernel
theorem dX6_know_117 : decode cX6_know 117 = .ok (.iload 7, 2) := by decide +kernel
theorem dX6_know_119 : decode cX6_know 119 = .ok (.ifCond .ne 15, 3) := by decide +kernel
theorem dX6_know_122 : decode cX6_know 122 = .ok (.aload_n 0, 1) := by decide +kernel
theorem dX6_know_123 : decode cX6_know 123 = .ok (.getfield 62, 3) := by decide +kernel
theorem dX6_know_126 : decode cX6_know 126 = .ok (.iload 9, 2) := by decide +kernel
theorem dX6_know_128 : decode cX6_know 128 = .ok (.iaload, 1) := by decide +kernel
theorem dX6_know_129 : decode cX6_know 129 = .ok (.iload 5, 2) := by decide +kernel
theorem dX6_know_131 : decode cX6_know 131 = .ok (.if_icmp .ge 10, 3) := by decide +kernel
theorem dX6_know_134 : decode cX6_know 134 = .ok (.aload_n 0, 1) := by decide +kernel
theorem dX6_know_135 : decode cX6_know 135 = .ok (.iload_n 2, 1) := by decide +kernel
theorem dX6_know_136 : decode cX6_know 136 = .ok (.iload 8, 2) := by decide +kernel
theorem dX6_know_138 : decode cX6_know 138 = .ok (.invokevirtual 207, 3) := by decide +kernel
theorem dX6_know_141 : decode cX6_know 141 = .ok (.iinc 8 (-1), 3) := by decide +kernel
theorem dX6_know_144 : decode cX6_know 144 = .ok (.goto (-52), 3) := by decide +kernel
theorem dX6_know_147 : decode cX6_know 147 = .ok (.return_, 1) := by decide +kernel
theorem dX6_answer_0 : decode cX6_answer 0 = .ok (.aload_n 0, 1) := by decide +kernel
theorem dX6_answer_1 : decode cX6_answer 1 = .ok (.iconst 2, 1) := by decide +kernel
theorem dX6_answer_2 : decode cX6_answer 2 = .ok (.aload_n 0, 1) := by decide +kernel
theorem dX6_answer_3 : decode cX6_answer 3 = .ok (.getfield 90, 3) := by decide +kernel
theorem dX6_answer_6 : decode cX6_answer 6 = .ok (.iload_n 2, 1) := by decide +kernel
theorem dX6_answer_7 : decode cX6_answer 7 = .ok (.iaload, 1) := by decide +kernel
theorem dX6_answer_8 : decode cX6_answer 8 = .ok (.iload_n 1, 1) := by decide +kernel
theorem dX6_answer_9 : decode cX6_answer 9 = .ok (.invokevirtual 182, 3) := by decide +kernel
theorem dX6_answer_12 : decode cX6_answer 12 = .ok (.istore 6, 2) := by decide +kernel
theorem dX6_answer_14 : decode cX6_answer 14 = .ok (.aload_n 0, 1) := by decide +kernel
theorem dX6_answer_15 : decode cX6_answer 15 = .ok (.getfield 93, 3) := by decide +kernel
theorem dX6_answer_18 : decode cX6_answer 18 = .ok (.iload 6, 2) := by decide +kernel
theorem dX6_answer_20 : decode cX6_answer 20 = .ok (.aload_n 0, 1) := by decide +kernel
theorem dX6_answer_21 : decode cX6_answer 21 = .ok (.getfield 93, 3) := by decide +kernel
theorem dX6_answer_24 : decode cX6_answer 24 = .ok (.iload_n 2, 1) := by decide +kernel
theorem dX6_answer_25 : decode cX6_answer 25 = .ok (.iaload, 1) := by decide +kernel
theorem dX6_answer_26 : decode cX6_answer 26 = .ok (.iastore, 1) := by decide +kernel
theorem dX6_answer_27 : decode cX6_answer 27 = .ok (.aload_n 0, 1) := by decide +kernel
theorem dX6_answer_28 : decode cX6_answer 28 = .ok (.getfield 96, 3) := by decide +kernel
theorem dX6_answer_31 : decode cX6_answer 31 = .ok (.iload 6, 2) := by decide +kernel
theorem dX6_answer_33 : decode cX6_answer 33 = .ok (.aload_n 0, 1) := by decide +kernel
theorem dX6_answer_34 : decode cX6_answer 34 = .ok (.getfield 96, 3) := by decide +kernel
theorem dX6_answer_37 : decode cX6_answer 37 = .ok (.iload_n 2, 1) := by decide +kernel
theorem dX6_answer_38 : decode cX6_answer 38 = .ok (.iaload, 1) := by decide +kernel
theorem dX6_answer_39 : decode cX6_answer 39 = .ok (.iastore, 1) := by decide +kernel
theorem dX6_answer_40 : decode cX6_answer 40 = .ok (.aload_n 0, 1) := by decide +kernel
theorem dX6_answer_41 : decode cX6_answer 41 = .ok (.getfield 99, 3) := by decide +kernel
theorem dX6_answer_44 : decode cX6_answer 44 = .ok (.iload 6, 2) := by decide +kernel
theorem dX6_answer_46 : decode cX6_answer 46 = .ok (.iload_n 3, 1) := by decide +kernel
theorem dX6_answer_47 : decode cX6_answer 47 = .ok (.iastore, 1) := by decide +kernel
theorem dX6_answer_48 : decode cX6_answer 48 = .ok (.aload_n 0, 1) := by decide +kernel
theorem dX6_answer_49 : decode cX6_answer 49 = .ok (.getfield 108, 3) := by decide +kernel
theorem dX6_answer_52 : decode cX6_answer 52 = .ok (.iload 6, 2) := by decide +kernel
theorem dX6_answer_54 : decode cX6_answer 54 = .ok (.lload 4, 2) := by decide +kernel
theorem dX6_answer_56 : decode cX6_answer 56 = .ok (.lastore, 1) := by decide +kernel
theorem dX6_answer_57 : decode cX6_answer 57 = .ok (.aload_n 0, 1) := by decide +kernel
theorem dX6_answer_58 : decode cX6_answer 58 = .ok (.iload_n 1, 1) := by decide +kernel
theorem dX6_answer_59 : decode cX6_answer 59 = .ok (.iload 6, 2) := by decide +kernel
theorem dX6_answer_61 : decode cX6_answer 61 = .ok (.invokevirtual 210, 3) := by decide +kernel
theorem dX6_answer_64 : decode cX6_answer 64 = .ok (.return_, 1) := by decide +kernel
theorem dX6_asked_0 : decode cX6_asked 0 = .ok (.aload_n 0, 1) := by decide +kernel
theorem dX6_asked_1 : decode cX6_asked 1 = .ok (.getfield 87, 3) := by decide +kernel
theorem dX6_asked_4 : decode cX6_asked 4 = .ok (.iload_n 1, 1) := by decide +kernel
theorem dX6_asked_5 : decode cX6_asked 5 = .ok (.iaload, 1) := by decide +kernel
theorem dX6_asked_6 : decode cX6_asked 6 = .ok (.istore_n 2, 1) := by decide +kernel
theorem dX6_asked_7 : decode cX6_asked 7 = .ok (.aload_n 0, 1) := by decide +kernel
theorem dX6_asked_8 : decode cX6_asked 8 = .ok (.getfield 90, 3) := by decide +kernel
theorem dX6_asked_11 : decode cX6_asked 11 = .ok (.iload_n 1, 1) := by decide +kernel
theorem dX6_asked_12 : decode cX6_asked 12 = .ok (.iaload, 1) := by decide +kernel
theorem dX6_asked_13 : decode cX6_asked 13 = .ok (.istore_n 3, 1) := by decide +kernel
theorem dX6_asked_14 : decode cX6_asked 14 = .ok (.bipush 16, 2) := by decide +kernel
theorem dX6_asked_16 : decode cX6_asked 16 = .ok (.iload_n 2, 1) := by decide +kernel
theorem dX6_asked_17 : decode cX6_asked 17 = .ok (.imul, 1) := by decide +kernel
theorem dX6_asked_18 : decode cX6_asked 18 = .ok (.aload_n 0, 1) := by decide +kernel
theorem dX6_asked_19 : decode cX6_asked 19 = .ok (.getfield 102, 3) := by decide +kernel
theorem dX6_asked_22 : decode cX6_asked 22 = .ok (.iload_n 1, 1) := by decide +kernel
theorem dX6_asked_23 : decode cX6_asked 23 = .ok (.iaload, 1) := by decide +kernel
theorem dX6_asked_24 : decode cX6_asked 24 = .ok (.bipush 8, 2) := by decide +kernel
theorem dX6_asked_26 : decode cX6_asked 26 = .ok (.irem, 1) := by decide +kernel
theorem dX6_asked_27 : decode cX6_asked 27 = .ok (.iadd, 1) := by decide +kernel
theorem dX6_asked_28 : decode cX6_asked 28 = .ok (.istore 4, 2) := by decide +kernel
theorem dX6_asked_30 : decode cX6_asked 30 = .ok (.aload_n 0, 1) := by decide +kernel
theorem dX6_asked_31 : decode cX6_asked 31 = .ok (.aload_n 0, 1) := by decide +kernel
theorem dX6_asked_32 : decode cX6_asked 32 = .ok (.getfield 93, 3) := by decide +kernel
theorem dX6_asked_35 : decode cX6_asked 35 = .ok (.iload_n 1, 1) := by decide +kernel
theorem dX6_asked_36 : decode cX6_asked 36 = .ok (.iaload, 1) := by decide +kernel
theorem dX6_asked_37 : decode cX6_asked 37 = .ok (.invokevirtual 179, 3) := by decide +kernel
theorem dX6_asked_40 : decode cX6_asked 40 = .ok (.ifCond .ne 12, 3) := by decide +kernel
theorem dX6_asked_43 : decode cX6_asked 43 = .ok (.aload_n 0, 1) := by decide +kernel
theorem dX6_asked_44 : decode cX6_asked 44 = .ok (.iload_n 2, 1) := by decide +kernel
theorem dX6_asked_45 : decode cX6_asked 45 = .ok (.iload_n 1, 1) := by decide +kernel
theorem dX6_asked_46 : decode cX6_asked 46 = .ok (.iconst 3, 1) := by decide +kernel
theorem dX6_asked_47 : decode cX6_asked 47 = .ok (.lconst 0, 1) := by decide +kernel
theorem dX6_asked_48 : decode cX6_asked 48 = .ok (.invokevirtual 213, 3) := by decide +kernel
theorem dX6_asked_51 : decode cX6_asked 51 = .ok (.return_, 1) := by decide +kernel
theorem dX6_asked_52 : decode cX6_asked 52 = .ok (.aload_n 0, 1) := by decide +kernel
theorem dX6_asked_53 : decode cX6_asked 53 = .ok (.getfield 41, 3) := by decide +kernel
theorem dX6_asked_56 : decode cX6_asked 56 = .ok (.iload 4, 2) := by decide +kernel
theorem dX6_asked_58 : decode cX6_asked 58 = .ok (.iaload, 1) := by decide +kernel
theorem dX6_asked_59 : decode cX6_asked 59 = .ok (.iconst 1, 1) := by decide +kernel
theorem dX6_asked_60 : decode cX6_asked 60 = .ok (.if_icmp .eq 49, 3) := by decide +kernel
theorem dX6_asked_63 : decode cX6_asked 63 = .ok (.aload_n 0, 1) := by decide +kernel
theorem dX6_asked_64 : decode cX6_asked 64 = .ok (.iload_n 2, 1) := by decide +kernel
theorem dX6_asked_65 : decode cX6_asked 65 = .ok (.iload_n 1, 1) := by decide +kernel
theorem dX6_asked_66 : decode cX6_asked 66 = .ok (.aload_n 0, 1) := by decide +kernel
theorem dX6_asked_67 : decode cX6_asked 67 = .ok (.getfield 41, 3) := by decide +kernel
theorem dX6_asked_70 : decode cX6_asked 70 = .ok (.iload 4, 2) := by decide +kernel
theorem dX6_asked_72 : decode cX6_asked 72 = .ok (.iaload, 1) := by decide +kernel
theorem dX6_asked_73 : decode cX6_asked 73 = .ok (.iconst 2, 1) := by decide +kernel
theorem dX6_asked_74 : decode cX6_asked 74 = .ok (.if_icmp .ne 7, 3) := by decide +kernel
theorem dX6_asked_77 : decode cX6_asked 77 = .ok (.iconst 2, 1) := by decide +kernel
theorem dX6_asked_78 : decode cX6_asked 78 = .ok (.goto 4, 3) := by decide +kernel
theorem dX6_asked_81 : decode cX6_asked 81 = .ok (.iconst 1, 1) := by decide +kernel
theorem dX6_asked_82 : decode cX6_asked 82 = .ok (.aload_n 0, 1) := by decide +kernel
theorem dX6_asked_83 : decode cX6_asked 83 = .ok (.getfield 41, 3) := by decide +kernel
theorem dX6_asked_86 : decode cX6_asked 86 = .ok (.iload 4, 2) := by decide +kernel
theorem dX6_asked_88 : decode cX6_asked 88 = .ok (.iaload, 1) := by decide +kernel
theorem dX6_asked_89 : decode cX6_asked 89 = .ok (.iconst 2, 1) := by decide +kernel
theorem dX6_asked_90 : decode cX6_asked 90 = .ok (.if_icmp .ne 7, 3) := by decide +kernel
theorem dX6_asked_93 : decode cX6_asked 93 = .ok (.lconst 0, 1) := by decide +kernel
theorem dX6_asked_94 : decode cX6_asked 94 = .ok (.goto 11, 3) := by decide +kernel
theorem dX6_asked_97 : decode cX6_asked 97 = .ok (.aload_n 0, 1) := by decide +kernel
theorem dX6_asked_98 : decode cX6_asked 98 = .ok (.getfield 47, 3) := by decide +kernel
theorem dX6_asked_101 : decode cX6_asked 101 = .ok (.iload 4, 2) := by decide +kernel
theorem dX6_asked_103 : decode cX6_asked 103 = .ok (.iaload, 1) := by decide +kernel
theorem dX6_asked_104 : decode cX6_asked 104 = .ok (.i2l, 1) := by decide +kernel
theorem dX6_asked_105 : decode cX6_asked 105 = .ok (.invokevirtual 213, 3) := by decide +kernel
theorem dX6_asked_108 : decode cX6_asked 108 = .ok (.return_, 1) := by decide +kernel
theorem dX6_asked_109 : decode cX6_asked 109 = .ok (.aload_n 0, 1) := by decide +kernel
theorem dX6_asked_110 : decode cX6_asked 110 = .ok (.iload_n 2, 1) := by decide +kernel
theorem dX6_asked_111 : decode cX6_asked 111 = .ok (.iload 4, 2) := by decide +kernel
theorem dX6_asked_113 : decode cX6_asked 113 = .ok (.iload_n 3, 1) := by decide +kernel
theorem dX6_asked_114 : decode cX6_asked 114 = .ok (.aload_n 0, 1) := by decide +kernel
theorem dX6_asked_115 : decode cX6_asked 115 = .ok (.getfield 93, 3) := by decide +kernel
theorem dX6_asked_118 : decode cX6_asked 118 = .ok (.iload_n 1, 1) := by decide +kernel
theorem dX6_asked_119 : decode cX6_asked 119 = .ok (.iaload, 1) := by decide +kernel
theorem dX6_asked_120 : decode cX6_asked 120 = .ok (.aload_n 0, 1) := by decide +kernel
theorem dX6_asked_121 : decode cX6_asked 121 = .ok (.getfield 99, 3) := by decide +kernel
theorem dX6_asked_124 : decode cX6_asked 124 = .ok (.iload_n 1, 1) := by decide +kernel
theorem dX6_asked_125 : decode cX6_asked 125 = .ok (.iaload, 1) := by decide +kernel
theorem dX6_asked_126 : decode cX6_asked 126 = .ok (.invokevirtual 217, 3) := by decide +kernel
theorem dX6_asked_129 : decode cX6_asked 129 = .ok (.aload_n 0, 1) := by decide +kernel
theorem dX6_asked_130 : decode cX6_asked 130 = .ok (.getfield 96, 3) := by decide +kernel
theorem dX6_asked_133 : decode cX6_asked 133 = .ok (.iload_n 1, 1) := by decide +kernel
theorem dX6_asked_134 : decode cX6_asked 134 = .ok (.iaload, 1) := by decide +kernel
theorem dX6_asked_135 : decode cX6_asked 135 = .ok (.aload_n 0, 1) := by decide +kernel
theorem dX6_asked_136 : decode cX6_asked 136 = .ok (.getfield 71, 3) := by decide +kernel
theorem dX6_asked_139 : decode cX6_asked 139 = .ok (.bipush 6, 2) := by decide +kernel
theorem dX6_asked_141 : decode cX6_asked 141 = .ok (.iload 4, 2) := by decide +kernel
theorem dX6_asked_143 : decode cX6_asked 143 = .ok (.imul, 1) := by decide +kernel
theorem dX6_asked_144 : decode cX6_asked 144 = .ok (.iload_n 3, 1) := by decide +kernel
theorem dX6_asked_145 : decode cX6_asked 145 = .ok (.iadd, 1) := by decide +kernel
theorem dX6_asked_146 : decode cX6_asked 146 = .ok (.iaload, 1) := by decide +kernel
theorem dX6_asked_147 : decode cX6_asked 147 = .ok (.if_icmp .ge 12, 3) := by decide +kernel
theorem dX6_asked_150 : decode cX6_asked 150 = .ok (.aload_n 0, 1) := by decide +kernel
theorem dX6_asked_151 : decode cX6_asked 151 = .ok (.iload_n 2, 1) := by decide +kernel
theorem dX6_asked_152 : decode cX6_asked 152 = .ok (.iload_n 1, 1) := by decide +kernel
theorem dX6_asked_153 : decode cX6_asked 153 = .ok (.iconst 4, 1) := by decide +kernel
theorem dX6_asked_154 : decode cX6_asked 154 = .ok (.lconst 0, 1) := by decide +kernel
theorem dX6_asked_155 : decode cX6_asked 155 = .ok (.invokevirtual 213, 3) := by decide +kernel
theorem dX6_asked_158 : decode cX6_asked 158 = .ok (.return_, 1) := by decide +kernel
theorem dX6_asked_159 : decode cX6_asked 159 = .ok (.iconst 0, 1) := by decide +kernel
theorem dX6_asked_160 : decode cX6_asked 160 = .ok (.istore 5, 2) := by decide +kernel
theorem dX6_asked_162 : decode cX6_asked 162 = .ok (.iload 5, 2) := by decide +kernel
theorem dX6_asked_164 : decode cX6_asked 164 = .ok (.aload_n 0, 1) := by decide +kernel
theorem dX6_asked_165 : decode cX6_asked 165 = .ok (.getfield 53, 3) := by decide +kernel
theorem dX6_asked_168 : decode cX6_asked 168 = .ok (.iload 4, 2) := by decide +kernel
theorem dX6_asked_170 : decode cX6_asked 170 = .ok (.iaload, 1) := by decide +kernel
theorem dX6_asked_171 : decode cX6_asked 171 = .ok (.if_icmp .ge 80, 3) := by decide +kernel
theorem dX6_asked_174 : decode cX6_asked 174 = .ok (.bipush 12, 2) := by decide +kernel
theorem dX6_asked_176 : decode cX6_asked 176 = .ok (.iload 4, 2) := by decide +kernel
theorem dX6_asked_178 : decode cX6_asked 178 = .ok (.imul, 1) := by decide +kernel
theorem dX6_asked_179 : decode cX6_asked 179 = .ok (.iload 5, 2) := by decide +kernel
theorem dX6_asked_181 : decode cX6_asked 181 = .ok (.iadd, 1) := by decide +kernel
theorem dX6_asked_182 : decode cX6_asked 182 = .ok (.istore 6, 2) := by decide +kernel
theorem dX6_asked_184 : decode cX6_asked 184 = .ok (.aload_n 0, 1) := by decide +kernel
theorem dX6_asked_185 : decode cX6_asked 185 = .ok (.getfield 56, 3) := by decide +kernel
theorem dX6_asked_188 : decode cX6_asked 188 = .ok (.iload 6, 2) := by decide +kernel
theorem dX6_asked_190 : decode cX6_asked 190 = .ok (.iaload, 1) := by decide +kernel
theorem dX6_asked_191 : decode cX6_asked 191 = .ok (.iload_n 3, 1) := by decide +kernel
theorem dX6_asked_192 : decode cX6_asked 192 = .ok (.if_icmp .ne 53, 3) := by decide +kernel
theorem dX6_asked_195 : decode cX6_asked 195 = .ok (.aload_n 0, 1) := by decide +kernel
theorem dX6_asked_196 : decode cX6_asked 196 = .ok (.getfield 59, 3) := by decide +kernel
theorem dX6_asked_199 : decode cX6_asked 199 = .ok (.iload 6, 2) := by decide +kernel
theorem dX6_asked_201 : decode cX6_asked 201 = .ok (.iaload, 1) := by decide +kernel
theorem dX6_asked_202 : decode cX6_asked 202 = .ok (.aload_n 0, 1) := by decide +kernel
theorem dX6_asked_203 : decode cX6_asked 203 = .ok (.getfield 93, 3) := by decide +kernel
theorem dX6_asked_206 : decode cX6_asked 206 = .ok (.iload_n 1, 1) := by decide +kernel
theorem dX6_asked_207 : decode cX6_asked 207 = .ok (.iaload, 1) := by decide +kernel
theorem dX6_asked_208 : decode cX6_asked 208 = .ok (.if_icmp .ne 37, 3) := by decide +kernel
theorem dX6_asked_211 : decode cX6_asked 211 = .ok (.aload_n 0, 1) := by decide +kernel
theorem dX6_asked_212 : decode cX6_asked 212 = .ok (.getfield 62, 3) := by decide +kernel
theorem dX6_asked_215 : decode cX6_asked 215 = .ok (.iload 6, 2) := by decide +kernel
theorem dX6_asked_217 : decode cX6_asked 217 = .ok (.iaload, 1) := by decide +kernel
theorem dX6_asked_218 : decode cX6_asked 218 = .ok (.aload_n 0, 1) := by decide +kernel
theorem dX6_asked_219 : decode cX6_asked 219 = .ok (.getfield 96, 3) := by decide +kernel
theorem dX6_asked_222 : decode cX6_asked 222 = .ok (.iload_n 1, 1) := by decide +kernel
theorem dX6_asked_223 : decode cX6_asked 223 = .ok (.iaload, 1) := by decide +kernel
theorem dX6_asked_224 : decode cX6_asked 224 = .ok (.if_icmp .eq 6, 3) := by decide +kernel
theorem dX6_asked_227 : decode cX6_asked 227 = .ok (.goto 18, 3) := by decide +kernel
theorem dX6_asked_230 : decode cX6_asked 230 = .ok (.aload_n 0, 1) := by decide +kernel
theorem dX6_asked_231 : decode cX6_asked 231 = .ok (.iload_n 2, 1) := by decide +kernel
theorem dX6_asked_232 : decode cX6_asked 232 = .ok (.iload_n 1, 1) := by decide +kernel
theorem dX6_asked_233 : decode cX6_asked 233 = .ok (.iconst 0, 1) := by decide +kernel
theorem dX6_asked_234 : decode cX6_asked 234 = .ok (.aload_n 0, 1) := by decide +kernel
theorem dX6_asked_235 : decode cX6_asked 235 = .ok (.getfield 65, 3) := by decide +kernel
theorem dX6_asked_238 : decode cX6_asked 238 = .ok (.iload 6, 2) := by decide +kernel
theorem dX6_asked_240 : decode cX6_asked 240 = .ok (.laload, 1) := by decide +kernel
theorem dX6_asked_241 : decode cX6_asked 241 = .ok (.invokevirtual 213, 3) := by decide +kernel
theorem dX6_asked_244 : decode cX6_asked 244 = .ok (.return_, 1) := by decide +kernel
theorem dX6_asked_245 : decode cX6_asked 245 = .ok (.iinc 5 1, 3) := by decide +kernel
theorem dX6_asked_248 : decode cX6_asked 248 = .ok (.goto (-86), 3) := by decide +kernel
theorem dX6_asked_251 : decode cX6_asked 251 = .ok (.aload_n 0, 1) := by decide +kernel
theorem dX6_asked_252 : decode cX6_asked 252 = .ok (.getfield 53, 3) := by decide +kernel
theorem dX6_asked_255 : decode cX6_asked 255 = .ok (.iload 4, 2) := by decide +kernel
theorem dX6_asked_257 : decode cX6_asked 257 = .ok (.iaload, 1) := by decide +kernel
theorem dX6_asked_258 : decode cX6_asked 258 = .ok (.bipush 12, 2) := by decide +kernel
theorem dX6_asked_260 : decode cX6_asked 260 = .ok (.if_icmp .ne 12, 3) := by decide +kernel
theorem dX6_asked_263 : decode cX6_asked 263 = .ok (.aload_n 0, 1) := by decide +kernel
theorem dX6_asked_264 : decode cX6_asked 264 = .ok (.iload_n 2, 1) := by decide +kernel
theorem dX6_asked_265 : decode cX6_asked 265 = .ok (.iload_n 1, 1) := by decide +kernel
theorem dX6_asked_266 : decode cX6_asked 266 = .ok (.iconst 2, 1) := by decide +kernel
theorem dX6_asked_267 : decode cX6_asked 267 = .ok (.lconst 0, 1) := by decide +kernel
theorem dX6_asked_268 : decode cX6_asked 268 = .ok (.invokevirtual 213, 3) := by decide +kernel
theorem dX6_asked_271 : decode cX6_asked 271 = .ok (.return_, 1) := by decide +kernel
theorem dX6_asked_272 : decode cX6_asked 272 = .ok (.aload_n 0, 1) := by decide +kernel
theorem dX6_asked_273 : decode cX6_asked 273 = .ok (.iconst 4, 1) := by decide +kernel
theorem dX6_asked_274 : decode cX6_asked 274 = .ok (.iload 4, 2) := by decide +kernel
theorem dX6_asked_276 : decode cX6_asked 276 = .ok (.imul, 1) := by decide +kernel
theorem dX6_asked_277 : decode cX6_asked 277 = .ok (.aload_n 0, 1) := by decide +kernel
theorem dX6_asked_278 : decode cX6_asked 278 = .ok (.getfield 102, 3) := by decide +kernel
theorem dX6_asked_281 : decode cX6_asked 281 = .ok (.iload_n 1, 1) := by decide +kernel
theorem dX6_asked_282 : decode cX6_asked 282 = .ok (.iaload, 1) := by decide +kernel
theorem dX6_asked_283 : decode cX6_asked 283 = .ok (.bipush 8, 2) := by decide +kernel
theorem dX6_asked_285 : decode cX6_asked 285 = .ok (.idiv, 1) := by decide +kernel
theorem dX6_asked_286 : decode cX6_asked 286 = .ok (.iadd, 1) := by decide +kernel
theorem dX6_asked_287 : decode cX6_asked 287 = .ok (.iload_n 1, 1) := by decide +kernel
theorem dX6_asked_288 : decode cX6_asked 288 = .ok (.invokevirtual 221, 3) := by decide +kernel
theorem dX6_asked_291 : decode cX6_asked 291 = .ok (.lstore 5, 2) := by decide +kernel
theorem dX6_asked_293 : decode cX6_asked 293 = .ok (.bipush 12, 2) := by decide +kernel
theorem dX6_asked_295 : decode cX6_asked 295 = .ok (.iload 4, 2) := by decide +kernel
theorem dX6_asked_297 : decode cX6_asked 297 = .ok (.imul, 1) := by decide +kernel
theorem dX6_asked_298 : decode cX6_asked 298 = .ok (.aload_n 0, 1) := by decide +kernel
theorem dX6_asked_299 : decode cX6_asked 299 = .ok (.getfield 53, 3) := by decide +kernel
theorem dX6_asked_302 : decode cX6_asked 302 = .ok (.iload 4, 2) := by decide +kernel
theorem dX6_asked_304 : decode cX6_asked 304 = .ok (.iaload, 1) := by decide +kernel
theorem dX6_asked_305 : decode cX6_asked 305 = .ok (.iadd, 1) := by decide +kernel
theorem dX6_asked_306 : decode cX6_asked 306 = .ok (.istore 7, 2) := by decide +kernel
theorem dX6_asked_308 : decode cX6_asked 308 = .ok (.aload_n 0, 1) := by decide +kernel
theorem dX6_asked_309 : decode cX6_asked 309 = .ok (.getfield 53, 3) := by decide +kernel
theorem dX6_asked_312 : decode cX6_asked 312 = .ok (.iload 4, 2) := by decide +kernel
theorem dX6_asked_314 : decode cX6_asked 314 = .ok (.dup2, 1) := by decide +kernel
theorem dX6_asked_315 : decode cX6_asked 315 = .ok (.iaload, 1) := by decide +kernel
theorem dX6_asked_316 : decode cX6_asked 316 = .ok (.iconst 1, 1) := by decide +kernel
theorem dX6_asked_317 : decode cX6_asked 317 = .ok (.iadd, 1) := by decide +kernel
theorem dX6_asked_318 : decode cX6_asked 318 = .ok (.iastore, 1) := by decide +kernel
theorem dX6_asked_319 : decode cX6_asked 319 = .ok (.aload_n 0, 1) := by decide +kernel
theorem dX6_asked_320 : decode cX6_asked 320 = .ok (.getfield 56, 3) := by decide +kernel
theorem dX6_asked_323 : decode cX6_asked 323 = .ok (.iload 7, 2) := by decide +kernel
theorem dX6_asked_325 : decode cX6_asked 325 = .ok (.iload_n 3, 1) := by decide +kernel
theorem dX6_asked_326 : decode cX6_asked 326 = .ok (.iastore, 1) := by decide +kernel
theorem dX6_asked_327 : decode cX6_asked 327 = .ok (.aload_n 0, 1) := by decide +kernel
theorem dX6_asked_328 : decode cX6_asked 328 = .ok (.getfield 59, 3) := by decide +kernel
theorem dX6_asked_331 : decode cX6_asked 331 = .ok (.iload 7, 2) := by decide +kernel
theorem dX6_asked_333 : decode cX6_asked 333 = .ok (.aload_n 0, 1) := by decide +kernel
theorem dX6_asked_334 : decode cX6_asked 334 = .ok (.getfield 93, 3) := by decide +kernel
theorem dX6_asked_337 : decode cX6_asked 337 = .ok (.iload_n 1, 1) := by decide +kernel
theorem dX6_asked_338 : decode cX6_asked 338 = .ok (.iaload, 1) := by decide +kernel
theorem dX6_asked_339 : decode cX6_asked 339 = .ok (.iastore, 1) := by decide +kernel
theorem dX6_asked_340 : decode cX6_asked 340 = .ok (.aload_n 0, 1) := by decide +kernel
theorem dX6_asked_341 : decode cX6_asked 341 = .ok (.getfield 62, 3) := by decide +kernel
theorem dX6_asked_344 : decode cX6_asked 344 = .ok (.iload 7, 2) := by decide +kernel
theorem dX6_asked_346 : decode cX6_asked 346 = .ok (.aload_n 0, 1) := by decide +kernel
theorem dX6_asked_347 : decode cX6_asked 347 = .ok (.getfield 96, 3) := by decide +kernel
theorem dX6_asked_350 : decode cX6_asked 350 = .ok (.iload_n 1, 1) := by decide +kernel
theorem dX6_asked_351 : decode cX6_asked 351 = .ok (.iaload, 1) := by decide +kernel
theorem dX6_asked_352 : decode cX6_asked 352 = .ok (.iastore, 1) := by decide +kernel
theorem dX6_asked_353 : decode cX6_asked 353 = .ok (.aload_n 0, 1) := by decide +kernel
theorem dX6_asked_354 : decode cX6_asked 354 = .ok (.getfield 65, 3) := by decide +kernel
theorem dX6_asked_357 : decode cX6_asked 357 = .ok (.iload 7, 2) := by decide +kernel
theorem dX6_asked_359 : decode cX6_asked 359 = .ok (.lload 5, 2) := by decide +kernel
theorem dX6_asked_361 : decode cX6_asked 361 = .ok (.lastore, 1) := by decide +kernel
theorem dX6_asked_362 : decode cX6_asked 362 = .ok (.aload_n 0, 1) := by decide +kernel
theorem dX6_asked_363 : decode cX6_asked 363 = .ok (.dup, 1) := by decide +kernel
theorem dX6_asked_364 : decode cX6_asked 364 = .ok (.getfield 225, 3) := by decide +kernel
theorem dX6_asked_367 : decode cX6_asked 367 = .ok (.iconst 1, 1) := by decide +kernel
theorem dX6_asked_368 : decode cX6_asked 368 = .ok (.iadd, 1) := by decide +kernel
theorem dX6_asked_369 : decode cX6_asked 369 = .ok (.putfield 225, 3) := by decide +kernel
theorem dX6_asked_372 : decode cX6_asked 372 = .ok (.aload_n 0, 1) := by decide +kernel
theorem dX6_asked_373 : decode cX6_asked 373 = .ok (.getfield 78, 3) := by decide +kernel
theorem dX6_asked_376 : decode cX6_asked 376 = .ok (.iload_n 2, 1) := by decide +kernel
theorem dX6_asked_377 : decode cX6_asked 377 = .ok (.iconst 1, 1) := by decide +kernel
theorem dX6_asked_378 : decode cX6_asked 378 = .ok (.bastore, 1) := by decide +kernel
theorem dX6_asked_379 : decode cX6_asked 379 = .ok (.aload_n 0, 1) := by decide +kernel
theorem dX6_asked_380 : decode cX6_asked 380 = .ok (.iload_n 2, 1) := by decide +kernel
theorem dX6_asked_381 : decode cX6_asked 381 = .ok (.iload_n 1, 1) := by decide +kernel
theorem dX6_asked_382 : decode cX6_asked 382 = .ok (.iconst 0, 1) := by decide +kernel
theorem dX6_asked_383 : decode cX6_asked 383 = .ok (.lload 5, 2) := by decide +kernel
theorem dX6_asked_385 : decode cX6_asked 385 = .ok (.invokevirtual 213, 3) := by decide +kernel
theorem dX6_asked_388 : decode cX6_asked 388 = .ok (.return_, 1) := by decide +kernel
theorem dX6_effect_0 : decode cX6_effect 0 = .ok (.aload_n 0, 1) := by decide +kernel
theorem dX6_effect_1 : decode cX6_effect 1 = .ok (.getfield 50, 3) := by decide +kernel
theorem dX6_effect_4 : decode cX6_effect 4 = .ok (.iload_n 1, 1) := by decide +kernel
theorem dX6_effect_5 : decode cX6_effect 5 = .ok (.laload, 1) := by decide +kernel
theorem dX6_effect_6 : decode cX6_effect 6 = .ok (.lstore_n 3, 1) := by decide +kernel
theorem dX6_effect_7 : decode cX6_effect 7 = .ok (.aload_n 0, 1) := by decide +kernel
theorem dX6_effect_8 : decode cX6_effect 8 = .ok (.getfield 105, 3) := by decide +kernel
theorem dX6_effect_11 : decode cX6_effect 11 = .ok (.iload_n 2, 1) := by decide +kernel
theorem dX6_effect_12 : decode cX6_effect 12 = .ok (.iaload, 1) := by decide +kernel
theorem dX6_effect_13 : decode cX6_effect 13 = .ok (.tableswitch 102 0 2 #[27, 41, 62], 27) := by decide +kernel
theorem dX6_effect_40 : decode cX6_effect 40 = .ok (.aload_n 0, 1) := by decide +kernel
theorem dX6_effect_41 : decode cX6_effect 41 = .ok (.getfield 50, 3) := by decide +kernel
theorem dX6_effect_44 : decode cX6_effect 44 = .ok (.iload_n 1, 1) := by decide +kernel
theorem dX6_effect_45 : decode cX6_effect 45 = .ok (.aload_n 0, 1) := by decide +kernel
theorem dX6_effect_46 : decode cX6_effect 46 = .ok (.getfield 108, 3) := by decide +kernel
theorem dX6_effect_49 : decode cX6_effect 49 = .ok (.iload_n 2, 1) := by decide +kernel
theorem dX6_effect_50 : decode cX6_effect 50 = .ok (.laload, 1) := by decide +kernel
theorem dX6_effect_51 : decode cX6_effect 51 = .ok (.lastore, 1) := by decide +kernel
theorem dX6_effect_52 : decode cX6_effect 52 = .ok (.lload_n 3, 1) := by decide +kernel
theorem dX6_effect_53 : decode cX6_effect 53 = .ok (.lreturn, 1) := by decide +kernel
theorem dX6_effect_54 : decode cX6_effect 54 = .ok (.aload_n 0, 1) := by decide +kernel
theorem dX6_effect_55 : decode cX6_effect 55 = .ok (.getfield 50, 3) := by decide +kernel
theorem dX6_effect_58 : decode cX6_effect 58 = .ok (.iload_n 1, 1) := by decide +kernel
theorem dX6_effect_59 : decode cX6_effect 59 = .ok (.lload_n 3, 1) := by decide +kernel
theorem dX6_effect_60 : decode cX6_effect 60 = .ok (.aload_n 0, 1) := by decide +kernel
theorem dX6_effect_61 : decode cX6_effect 61 = .ok (.getfield 108, 3) := by decide +kernel
theorem dX6_effect_64 : decode cX6_effect 64 = .ok (.iload_n 2, 1) := by decide +kernel
theorem dX6_effect_65 : decode cX6_effect 65 = .ok (.laload, 1) := by decide +kernel
theorem dX6_effect_66 : decode cX6_effect 66 = .ok (.ladd, 1) := by decide +kernel
theorem dX6_effect_67 : decode cX6_effect 67 = .ok (.lastore, 1) := by decide +kernel
theorem dX6_effect_68 : decode cX6_effect 68 = .ok (.aload_n 0, 1) := by decide +kernel
theorem dX6_effect_69 : decode cX6_effect 69 = .ok (.getfield 50, 3) := by decide +kernel
theorem dX6_effect_72 : decode cX6_effect 72 = .ok (.iload_n 1, 1) := by decide +kernel
theorem dX6_effect_73 : decode cX6_effect 73 = .ok (.laload, 1) := by decide +kernel
theorem dX6_effect_74 : decode cX6_effect 74 = .ok (.lreturn, 1) := by decide +kernel
theorem dX6_effect_75 : decode cX6_effect 75 = .ok (.lload_n 3, 1) := by decide +kernel
theorem dX6_effect_76 : decode cX6_effect 76 = .ok (.aload_n 0, 1) := by decide +kernel
theorem dX6_effect_77 : decode cX6_effect 77 = .ok (.getfield 108, 3) := by decide +kernel
theorem dX6_effect_80 : decode cX6_effect 80 = .ok (.iload_n 2, 1) := by decide +kernel
theorem dX6_effect_81 : decode cX6_effect 81 = .ok (.laload, 1) := by decide +kernel
theorem dX6_effect_82 : decode cX6_effect 82 = .ok (.lcmp, 1) := by decide +kernel
theorem dX6_effect_83 : decode cX6_effect 83 = .ok (.ifCond .ne 15, 3) := by decide +kernel
theorem dX6_effect_86 : decode cX6_effect 86 = .ok (.aload_n 0, 1) := by decide +kernel
theorem dX6_effect_87 : decode cX6_effect 87 = .ok (.getfield 50, 3) := by decide +kernel
theorem dX6_effect_90 : decode cX6_effect 90 = .ok (.iload_n 1, 1) := by decide +kernel
theorem dX6_effect_91 : decode cX6_effect 91 = .ok (.aload_n 0, 1) := by decide +kernel
theorem dX6_effect_92 : decode cX6_effect 92 = .ok (.getfield 111, 3) := by decide +kernel
theorem dX6_effect_95 : decode cX6_effect 95 = .ok (.iload_n 2, 1) := by decide +kernel
theorem dX6_effect_96 : decode cX6_effect 96 = .ok (.laload, 1) := by decide +kernel
theorem dX6_effect_97 : decode cX6_effect 97 = .ok (.lastore, 1) := by decide +kernel
theorem dX6_effect_98 : decode cX6_effect 98 = .ok (.lload_n 3, 1) := by decide +kernel
theorem dX6_effect_99 : decode cX6_effect 99 = .ok (.aload_n 0, 1) := by decide +kernel
theorem dX6_effect_100 : decode cX6_effect 100 = .ok (.getfield 108, 3) := by decide +kernel
theorem dX6_effect_103 : decode cX6_effect 103 = .ok (.iload_n 2, 1) := by decide +kernel
theorem dX6_effect_104 : decode cX6_effect 104 = .ok (.laload, 1) := by decide +kernel
theorem dX6_effect_105 : decode cX6_effect 105 = .ok (.lcmp, 1) := by decide +kernel
theorem dX6_effect_106 : decode cX6_effect 106 = .ok (.ifCond .ne 7, 3) := by decide +kernel
theorem dX6_effect_109 : decode cX6_effect 109 = .ok (.lconst 1, 1) := by decide +kernel
theorem dX6_effect_110 : decode cX6_effect 110 = .ok (.goto 4, 3) := by decide +kernel
theorem dX6_effect_113 : decode cX6_effect 113 = .ok (.lconst 0, 1) := by decide +kernel
theorem dX6_effect_114 : decode cX6_effect 114 = .ok (.lreturn, 1) := by decide +kernel
theorem dX6_effect_115 : decode cX6_effect 115 = .ok (.aload_n 0, 1) := by decide +kernel
theorem dX6_effect_116 : decode cX6_effect 116 = .ok (.getfield 50, 3) := by decide +kernel
theorem dX6_effect_119 : decode cX6_effect 119 = .ok (.iload_n 1, 1) := by decide +kernel
theorem dX6_effect_120 : decode cX6_effect 120 = .ok (.lload_n 3, 1) := by decide +kernel
theorem dX6_effect_121 : decode cX6_effect 121 = .ok (.aload_n 0, 1) := by decide +kernel
theorem dX6_effect_122 : decode cX6_effect 122 = .ok (.getfield 108, 3) := by decide +kernel
theorem dX6_effect_125 : decode cX6_effect 125 = .ok (.iload_n 2, 1) := by decide +kernel
theorem dX6_effect_126 : decode cX6_effect 126 = .ok (.laload, 1) := by decide +kernel
theorem dX6_effect_127 : decode cX6_effect 127 = .ok (.lmul, 1) := by decide +kernel
theorem dX6_effect_128 : decode cX6_effect 128 = .ok (.lastore, 1) := by decide +kernel
theorem dX6_effect_129 : decode cX6_effect 129 = .ok (.aload_n 0, 1) := by decide +kernel
theorem dX6_effect_130 : decode cX6_effect 130 = .ok (.getfield 50, 3) := by decide +kernel
theorem dX6_effect_133 : decode cX6_effect 133 = .ok (.iload_n 1, 1) := by decide +kernel
theorem dX6_effect_134 : decode cX6_effect 134 = .ok (.laload, 1) := by decide +kernel
theorem dX6_effect_135 : decode cX6_effect 135 = .ok (.lreturn, 1) := by decide +kernel
theorem dX6_moved_0 : decode cX6_moved 0 = .ok (.aload_n 0, 1) := by decide +kernel
theorem dX6_moved_1 : decode cX6_moved 1 = .ok (.getfield 87, 3) := by decide +kernel
theorem dX6_moved_4 : decode cX6_moved 4 = .ok (.iload_n 1, 1) := by decide +kernel
theorem dX6_moved_5 : decode cX6_moved 5 = .ok (.iaload, 1) := by decide +kernel
theorem dX6_moved_6 : decode cX6_moved 6 = .ok (.istore_n 2, 1) := by decide +kernel
theorem dX6_moved_7 : decode cX6_moved 7 = .ok (.aload_n 0, 1) := by decide +kernel
theorem dX6_moved_8 : decode cX6_moved 8 = .ok (.getfield 102, 3) := by decide +kernel
theorem dX6_moved_11 : decode cX6_moved 11 = .ok (.iload_n 1, 1) := by decide +kernel
theorem dX6_moved_12 : decode cX6_moved 12 = .ok (.iaload, 1) := by decide +kernel
theorem dX6_moved_13 : decode cX6_moved 13 = .ok (.istore_n 3, 1) := by decide +kernel
theorem dX6_moved_14 : decode cX6_moved 14 = .ok (.bipush 16, 2) := by decide +kernel
theorem dX6_moved_16 : decode cX6_moved 16 = .ok (.iload_n 2, 1) := by decide +kernel
theorem dX6_moved_17 : decode cX6_moved 17 = .ok (.imul, 1) := by decide +kernel
theorem dX6_moved_18 : decode cX6_moved 18 = .ok (.iload_n 3, 1) := by decide +kernel
theorem dX6_moved_19 : decode cX6_moved 19 = .ok (.iadd, 1) := by decide +kernel
theorem dX6_moved_20 : decode cX6_moved 20 = .ok (.istore 4, 2) := by decide +kernel
theorem dX6_moved_22 : decode cX6_moved 22 = .ok (.aload_n 0, 1) := by decide +kernel
theorem dX6_moved_23 : decode cX6_moved 23 = .ok (.getfield 93, 3) := by decide +kernel
theorem dX6_moved_26 : decode cX6_moved 26 = .ok (.iload_n 1, 1) := by decide +kernel
theorem dX6_moved_27 : decode cX6_moved 27 = .ok (.iaload, 1) := by decide +kernel
theorem dX6_moved_28 : decode cX6_moved 28 = .ok (.aload_n 0, 1) := by decide +kernel
theorem dX6_moved_29 : decode cX6_moved 29 = .ok (.getfield 44, 3) := by decide +kernel
theorem dX6_moved_32 : decode cX6_moved 32 = .ok (.iload 4, 2) := by decide +kernel
theorem dX6_moved_34 : decode cX6_moved 34 = .ok (.iaload, 1) := by decide +kernel
theorem dX6_moved_35 : decode cX6_moved 35 = .ok (.if_icmp .le 276, 3) := by decide +kernel
theorem dX6_moved_38 : decode cX6_moved 38 = .ok (.aload_n 0, 1) := by decide +kernel
theorem dX6_moved_39 : decode cX6_moved 39 = .ok (.getfield 78, 3) := by decide +kernel
theorem dX6_moved_42 : decode cX6_moved 42 = .ok (.iload_n 2, 1) := by decide +kernel
theorem dX6_moved_43 : decode cX6_moved 43 = .ok (.iconst 1, 1) := by decide +kernel
theorem dX6_moved_44 : decode cX6_moved 44 = .ok (.bastore, 1) := by decide +kernel
theorem dX6_moved_45 : decode cX6_moved 45 = .ok (.aload_n 0, 1) := by decide +kernel
theorem dX6_moved_46 : decode cX6_moved 46 = .ok (.getfield 41, 3) := by decide +kernel
theorem dX6_moved_49 : decode cX6_moved 49 = .ok (.iload 4, 2) := by decide +kernel
theorem dX6_moved_51 : decode cX6_moved 51 = .ok (.iconst 1, 1) := by decide +kernel
theorem dX6_moved_52 : decode cX6_moved 52 = .ok (.iastore, 1) := by decide +kernel
theorem dX6_moved_53 : decode cX6_moved 53 = .ok (.aload_n 0, 1) := by decide +kernel
theorem dX6_moved_54 : decode cX6_moved 54 = .ok (.getfield 44, 3) := by decide +kernel
theorem dX6_moved_57 : decode cX6_moved 57 = .ok (.iload 4, 2) := by decide +kernel
theorem dX6_moved_59 : decode cX6_moved 59 = .ok (.aload_n 0, 1) := by decide +kernel
theorem dX6_moved_60 : decode cX6_moved 60 = .ok (.getfield 93, 3) := by decide +kernel
theorem dX6_moved_63 : decode cX6_moved 63 = .ok (.iload_n 1, 1) := by decide +kernel
theorem dX6_moved_64 : decode cX6_moved 64 = .ok (.iaload, 1) := by decide +kernel
theorem dX6_moved_65 : decode cX6_moved 65 = .ok (.iastore, 1) := by decide +kernel
theorem dX6_moved_66 : decode cX6_moved 66 = .ok (.aload_n 0, 1) := by decide +kernel
theorem dX6_moved_67 : decode cX6_moved 67 = .ok (.getfield 47, 3) := by decide +kernel
theorem dX6_moved_70 : decode cX6_moved 70 = .ok (.iload 4, 2) := by decide +kernel
theorem dX6_moved_72 : decode cX6_moved 72 = .ok (.iload_n 2, 1) := by decide +kernel
theorem dX6_moved_73 : decode cX6_moved 73 = .ok (.iastore, 1) := by decide +kernel
theorem dX6_moved_74 : decode cX6_moved 74 = .ok (.aload_n 0, 1) := by decide +kernel
theorem dX6_moved_75 : decode cX6_moved 75 = .ok (.getfield 53, 3) := by decide +kernel
theorem dX6_moved_78 : decode cX6_moved 78 = .ok (.iload 4, 2) := by decide +kernel
theorem dX6_moved_80 : decode cX6_moved 80 = .ok (.aload_n 0, 1) := by decide +kernel
theorem dX6_moved_81 : decode cX6_moved 81 = .ok (.getfield 99, 3) := by decide +kernel
theorem dX6_moved_84 : decode cX6_moved 84 = .ok (.iload_n 1, 1) := by decide +kernel
theorem dX6_moved_85 : decode cX6_moved 85 = .ok (.iaload, 1) := by decide +kernel
theorem dX6_moved_86 : decode cX6_moved 86 = .ok (.iastore, 1) := by decide +kernel
theorem dX6_moved_87 : decode cX6_moved 87 = .ok (.iconst 0, 1) := by decide +kernel
theorem dX6_moved_88 : decode cX6_moved 88 = .ok (.istore 5, 2) := by decide +kernel
theorem dX6_moved_90 : decode cX6_moved 90 = .ok (.iload 5, 2) := by decide +kernel
theorem dX6_moved_92 : decode cX6_moved 92 = .ok (.iconst 4, 1) := by decide +kernel
theorem dX6_moved_93 : decode cX6_moved 93 = .ok (.if_icmp .ge 32, 3) := by decide +kernel
theorem dX6_moved_96 : decode cX6_moved 96 = .ok (.aload_n 0, 1) := by decide +kernel
theorem dX6_moved_97 : decode cX6_moved 97 = .ok (.getfield 50, 3) := by decide +kernel
theorem dX6_moved_100 : decode cX6_moved 100 = .ok (.iconst 4, 1) := by decide +kernel
theorem dX6_moved_101 : decode cX6_moved 101 = .ok (.iload 4, 2) := by decide +kernel
theorem dX6_moved_103 : decode cX6_moved 103 = .ok (.imul, 1) := by decide +kernel
theorem dX6_moved_104 : decode cX6_moved 104 = .ok (.iload 5, 2) := by decide +kernel
theorem dX6_moved_106 : decode cX6_moved 106 = .ok (.iadd, 1) := by decide +kernel
theorem dX6_moved_107 : decode cX6_moved 107 = .ok (.aload_n 0, 1) := by decide +kernel
theorem dX6_moved_108 : decode cX6_moved 108 = .ok (.getfield 114, 3) := by decide +kernel
theorem dX6_moved_111 : decode cX6_moved 111 = .ok (.iconst 4, 1) := by decide +kernel
theorem dX6_moved_112 : decode cX6_moved 112 = .ok (.iload_n 1, 1) := by decide +kernel
theorem dX6_moved_113 : decode cX6_moved 113 = .ok (.imul, 1) := by decide +kernel
theorem dX6_moved_114 : decode cX6_moved 114 = .ok (.iload 5, 2) := by decide +kernel
theorem dX6_moved_116 : decode cX6_moved 116 = .ok (.iadd, 1) := by decide +kernel
theorem dX6_moved_117 : decode cX6_moved 117 = .ok (.laload, 1) := by decide +kernel
theorem dX6_moved_118 : decode cX6_moved 118 = .ok (.lastore, 1) := by decide +kernel
theorem dX6_moved_119 : decode cX6_moved 119 = .ok (.iinc 5 1, 3) := by decide +kernel
theorem dX6_moved_122 : decode cX6_moved 122 = .ok (.goto (-32), 3) := by decide +kernel
theorem dX6_moved_125 : decode cX6_moved 125 = .ok (.iconst 0, 1) := by decide +kernel
theorem dX6_moved_126 : decode cX6_moved 126 = .ok (.istore 5, 2) := by decide +kernel
theorem dX6_moved_128 : decode cX6_moved 128 = .ok (.iload 5, 2) := by decide +kernel
theorem dX6_moved_130 : decode cX6_moved 130 = .ok (.aload_n 0, 1) := by decide +kernel
theorem dX6_moved_131 : decode cX6_moved 131 = .ok (.getfield 99, 3) := by decide +kernel
theorem dX6_moved_134 : decode cX6_moved 134 = .ok (.iload_n 1, 1) := by decide +kernel
theorem dX6_moved_135 : decode cX6_moved 135 = .ok (.iaload, 1) := by decide +kernel
theorem dX6_moved_136 : decode cX6_moved 136 = .ok (.if_icmp .ge 109, 3) := by decide +kernel
theorem dX6_moved_139 : decode cX6_moved 139 = .ok (.aload_n 0, 1) := by decide +kernel
theorem dX6_moved_140 : decode cX6_moved 140 = .ok (.getfield 56, 3) := by decide +kernel
theorem dX6_moved_143 : decode cX6_moved 143 = .ok (.bipush 12, 2) := by decide +kernel
theorem dX6_moved_145 : decode cX6_moved 145 = .ok (.iload 4, 2) := by decide +kernel
theorem dX6_moved_147 : decode cX6_moved 147 = .ok (.imul, 1) := by decide +kernel
theorem dX6_moved_148 : decode cX6_moved 148 = .ok (.iload 5, 2) := by decide +kernel
theorem dX6_moved_150 : decode cX6_moved 150 = .ok (.iadd, 1) := by decide +kernel
theorem dX6_moved_151 : decode cX6_moved 151 = .ok (.aload_n 0, 1) := by decide +kernel
theorem dX6_moved_152 : decode cX6_moved 152 = .ok (.getfield 118, 3) := by decide +kernel
theorem dX6_moved_155 : decode cX6_moved 155 = .ok (.bipush 12, 2) := by decide +kernel
theorem dX6_moved_157 : decode cX6_moved 157 = .ok (.iload_n 1, 1) := by decide +kernel
theorem dX6_moved_158 : decode cX6_moved 158 = .ok (.imul, 1) := by decide +kernel
theorem dX6_moved_159 : decode cX6_moved 159 = .ok (.iload 5, 2) := by decide +kernel
theorem dX6_moved_161 : decode cX6_moved 161 = .ok (.iadd, 1) := by decide +kernel
theorem dX6_moved_162 : decode cX6_moved 162 = .ok (.iaload, 1) := by decide +kernel
theorem dX6_moved_163 : decode cX6_moved 163 = .ok (.iastore, 1) := by decide +kernel
theorem dX6_moved_164 : decode cX6_moved 164 = .ok (.aload_n 0, 1) := by decide +kernel
theorem dX6_moved_165 : decode cX6_moved 165 = .ok (.getfield 59, 3) := by decide +kernel
theorem dX6_moved_168 : decode cX6_moved 168 = .ok (.bipush 12, 2) := by decide +kernel
theorem dX6_moved_170 : decode cX6_moved 170 = .ok (.iload 4, 2) := by decide +kernel
theorem dX6_moved_172 : decode cX6_moved 172 = .ok (.imul, 1) := by decide +kernel
theorem dX6_moved_173 : decode cX6_moved 173 = .ok (.iload 5, 2) := by decide +kernel
theorem dX6_moved_175 : decode cX6_moved 175 = .ok (.iadd, 1) := by decide +kernel
theorem dX6_moved_176 : decode cX6_moved 176 = .ok (.aload_n 0, 1) := by decide +kernel
theorem dX6_moved_177 : decode cX6_moved 177 = .ok (.getfield 121, 3) := by decide +kernel
theorem dX6_moved_180 : decode cX6_moved 180 = .ok (.bipush 12, 2) := by decide +kernel
theorem dX6_moved_182 : decode cX6_moved 182 = .ok (.iload_n 1, 1) := by decide +kernel
theorem dX6_moved_183 : decode cX6_moved 183 = .ok (.imul, 1) := by decide +kernel
theorem dX6_moved_184 : decode cX6_moved 184 = .ok (.iload 5, 2) := by decide +kernel
theorem dX6_moved_186 : decode cX6_moved 186 = .ok (.iadd, 1) := by decide +kernel
theorem dX6_moved_187 : decode cX6_moved 187 = .ok (.iaload, 1) := by decide +kernel
theorem dX6_moved_188 : decode cX6_moved 188 = .ok (.iastore, 1) := by decide +kernel
theorem dX6_moved_189 : decode cX6_moved 189 = .ok (.aload_n 0, 1) := by decide +kernel
theorem dX6_moved_190 : decode cX6_moved 190 = .ok (.getfield 62, 3) := by decide +kernel
theorem dX6_moved_193 : decode cX6_moved 193 = .ok (.bipush 12, 2) := by decide +kernel
theorem dX6_moved_195 : decode cX6_moved 195 = .ok (.iload 4, 2) := by decide +kernel
theorem dX6_moved_197 : decode cX6_moved 197 = .ok (.imul, 1) := by decide +kernel
theorem dX6_moved_198 : decode cX6_moved 198 = .ok (.iload 5, 2) := by decide +kernel
theorem dX6_moved_200 : decode cX6_moved 200 = .ok (.iadd, 1) := by decide +kernel
theorem dX6_moved_201 : decode cX6_moved 201 = .ok (.aload_n 0, 1) := by decide +kernel
theorem dX6_moved_202 : decode cX6_moved 202 = .ok (.getfield 124, 3) := by decide +kernel
theorem dX6_moved_205 : decode cX6_moved 205 = .ok (.bipush 12, 2) := by decide +kernel
theorem dX6_moved_207 : decode cX6_moved 207 = .ok (.iload_n 1, 1) := by decide +kernel
theorem dX6_moved_208 : decode cX6_moved 208 = .ok (.imul, 1) := by decide +kernel
theorem dX6_moved_209 : decode cX6_moved 209 = .ok (.iload 5, 2) := by decide +kernel
theorem dX6_moved_211 : decode cX6_moved 211 = .ok (.iadd, 1) := by decide +kernel
theorem dX6_moved_212 : decode cX6_moved 212 = .ok (.iaload, 1) := by decide +kernel
theorem dX6_moved_213 : decode cX6_moved 213 = .ok (.iastore, 1) := by decide +kernel
theorem dX6_moved_214 : decode cX6_moved 214 = .ok (.aload_n 0, 1) := by decide +kernel
theorem dX6_moved_215 : decode cX6_moved 215 = .ok (.getfield 65, 3) := by decide +kernel
theorem dX6_moved_218 : decode cX6_moved 218 = .ok (.bipush 12, 2) := by decide +kernel
theorem dX6_moved_220 : decode cX6_moved 220 = .ok (.iload 4, 2) := by decide +kernel
theorem dX6_moved_222 : decode cX6_moved 222 = .ok (.imul, 1) := by decide +kernel
theorem dX6_moved_223 : decode cX6_moved 223 = .ok (.iload 5, 2) := by decide +kernel
theorem dX6_moved_225 : decode cX6_moved 225 = .ok (.iadd, 1) := by decide +kernel

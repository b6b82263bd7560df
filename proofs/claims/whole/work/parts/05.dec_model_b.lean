theorem dX6_moved_226 : decode cX6_moved 226 = .ok (.aload_n 0, 1) := by decide +kernel
theorem dX6_moved_227 : decode cX6_moved 227 = .ok (.getfield 127, 3) := by decide +kernel
theorem dX6_moved_230 : decode cX6_moved 230 = .ok (.bipush 12, 2) := by decide +kernel
theorem dX6_moved_232 : decode cX6_moved 232 = .ok (.iload_n 1, 1) := by decide +kernel
theorem dX6_moved_233 : decode cX6_moved 233 = .ok (.imul, 1) := by decide +kernel
theorem dX6_moved_234 : decode cX6_moved 234 = .ok (.iload 5, 2) := by decide +kernel
theorem dX6_moved_236 : decode cX6_moved 236 = .ok (.iadd, 1) := by decide +kernel
theorem dX6_moved_237 : decode cX6_moved 237 = .ok (.laload, 1) := by decide +kernel
theorem dX6_moved_238 : decode cX6_moved 238 = .ok (.lastore, 1) := by decide +kernel
theorem dX6_moved_239 : decode cX6_moved 239 = .ok (.iinc 5 1, 3) := by decide +kernel
theorem dX6_moved_242 : decode cX6_moved 242 = .ok (.goto (-114), 3) := by decide +kernel
theorem dX6_moved_245 : decode cX6_moved 245 = .ok (.iconst 0, 1) := by decide +kernel
theorem dX6_moved_246 : decode cX6_moved 246 = .ok (.istore 5, 2) := by decide +kernel
theorem dX6_moved_248 : decode cX6_moved 248 = .ok (.iload 5, 2) := by decide +kernel
theorem dX6_moved_250 : decode cX6_moved 250 = .ok (.bipush 6, 2) := by decide +kernel
theorem dX6_moved_252 : decode cX6_moved 252 = .ok (.if_icmp .ge 59, 3) := by decide +kernel
theorem dX6_moved_255 : decode cX6_moved 255 = .ok (.aload_n 0, 1) := by decide +kernel
theorem dX6_moved_256 : decode cX6_moved 256 = .ok (.getfield 68, 3) := by decide +kernel
theorem dX6_moved_259 : decode cX6_moved 259 = .ok (.bipush 6, 2) := by decide +kernel
theorem dX6_moved_261 : decode cX6_moved 261 = .ok (.iload 4, 2) := by decide +kernel
theorem dX6_moved_263 : decode cX6_moved 263 = .ok (.imul, 1) := by decide +kernel
theorem dX6_moved_264 : decode cX6_moved 264 = .ok (.iload 5, 2) := by decide +kernel
theorem dX6_moved_266 : decode cX6_moved 266 = .ok (.iadd, 1) := by decide +kernel
theorem dX6_moved_267 : decode cX6_moved 267 = .ok (.aload_n 0, 1) := by decide +kernel
theorem dX6_moved_268 : decode cX6_moved 268 = .ok (.getfield 130, 3) := by decide +kernel
theorem dX6_moved_271 : decode cX6_moved 271 = .ok (.bipush 6, 2) := by decide +kernel
theorem dX6_moved_273 : decode cX6_moved 273 = .ok (.iload_n 1, 1) := by decide +kernel
theorem dX6_moved_274 : decode cX6_moved 274 = .ok (.imul, 1) := by decide +kernel
theorem dX6_moved_275 : decode cX6_moved 275 = .ok (.iload 5, 2) := by decide +kernel
theorem dX6_moved_277 : decode cX6_moved 277 = .ok (.iadd, 1) := by decide +kernel
theorem dX6_moved_278 : decode cX6_moved 278 = .ok (.iaload, 1) := by decide +kernel
theorem dX6_moved_279 : decode cX6_moved 279 = .ok (.iastore, 1) := by decide +kernel
theorem dX6_moved_280 : decode cX6_moved 280 = .ok (.aload_n 0, 1) := by decide +kernel
theorem dX6_moved_281 : decode cX6_moved 281 = .ok (.getfield 71, 3) := by decide +kernel
theorem dX6_moved_284 : decode cX6_moved 284 = .ok (.bipush 6, 2) := by decide +kernel
theorem dX6_moved_286 : decode cX6_moved 286 = .ok (.iload 4, 2) := by decide +kernel
theorem dX6_moved_288 : decode cX6_moved 288 = .ok (.imul, 1) := by decide +kernel
theorem dX6_moved_289 : decode cX6_moved 289 = .ok (.iload 5, 2) := by decide +kernel
theorem dX6_moved_291 : decode cX6_moved 291 = .ok (.iadd, 1) := by decide +kernel
theorem dX6_moved_292 : decode cX6_moved 292 = .ok (.aload_n 0, 1) := by decide +kernel
theorem dX6_moved_293 : decode cX6_moved 293 = .ok (.getfield 133, 3) := by decide +kernel
theorem dX6_moved_296 : decode cX6_moved 296 = .ok (.bipush 6, 2) := by decide +kernel
theorem dX6_moved_298 : decode cX6_moved 298 = .ok (.iload_n 1, 1) := by decide +kernel
theorem dX6_moved_299 : decode cX6_moved 299 = .ok (.imul, 1) := by decide +kernel
theorem dX6_moved_300 : decode cX6_moved 300 = .ok (.iload 5, 2) := by decide +kernel
theorem dX6_moved_302 : decode cX6_moved 302 = .ok (.iadd, 1) := by decide +kernel
theorem dX6_moved_303 : decode cX6_moved 303 = .ok (.iaload, 1) := by decide +kernel
theorem dX6_moved_304 : decode cX6_moved 304 = .ok (.iastore, 1) := by decide +kernel
theorem dX6_moved_305 : decode cX6_moved 305 = .ok (.iinc 5 1, 3) := by decide +kernel
theorem dX6_moved_308 : decode cX6_moved 308 = .ok (.goto (-60), 3) := by decide +kernel
theorem dX6_moved_311 : decode cX6_moved 311 = .ok (.aload_n 0, 1) := by decide +kernel
theorem dX6_moved_312 : decode cX6_moved 312 = .ok (.iconst 4, 1) := by decide +kernel
theorem dX6_moved_313 : decode cX6_moved 313 = .ok (.aload_n 0, 1) := by decide +kernel
theorem dX6_moved_314 : decode cX6_moved 314 = .ok (.getfield 90, 3) := by decide +kernel
theorem dX6_moved_317 : decode cX6_moved 317 = .ok (.iload_n 1, 1) := by decide +kernel
theorem dX6_moved_318 : decode cX6_moved 318 = .ok (.iaload, 1) := by decide +kernel
theorem dX6_moved_319 : decode cX6_moved 319 = .ok (.iload_n 2, 1) := by decide +kernel
theorem dX6_moved_320 : decode cX6_moved 320 = .ok (.invokevirtual 182, 3) := by decide +kernel
theorem dX6_moved_323 : decode cX6_moved 323 = .ok (.istore 5, 2) := by decide +kernel
theorem dX6_moved_325 : decode cX6_moved 325 = .ok (.aload_n 0, 1) := by decide +kernel
theorem dX6_moved_326 : decode cX6_moved 326 = .ok (.getfield 93, 3) := by decide +kernel
theorem dX6_moved_329 : decode cX6_moved 329 = .ok (.iload 5, 2) := by decide +kernel
theorem dX6_moved_331 : decode cX6_moved 331 = .ok (.aload_n 0, 1) := by decide +kernel
theorem dX6_moved_332 : decode cX6_moved 332 = .ok (.getfield 93, 3) := by decide +kernel
theorem dX6_moved_335 : decode cX6_moved 335 = .ok (.iload_n 1, 1) := by decide +kernel
theorem dX6_moved_336 : decode cX6_moved 336 = .ok (.iaload, 1) := by decide +kernel
theorem dX6_moved_337 : decode cX6_moved 337 = .ok (.iastore, 1) := by decide +kernel
theorem dX6_moved_338 : decode cX6_moved 338 = .ok (.aload_n 0, 1) := by decide +kernel
theorem dX6_moved_339 : decode cX6_moved 339 = .ok (.getfield 102, 3) := by decide +kernel
theorem dX6_moved_342 : decode cX6_moved 342 = .ok (.iload 5, 2) := by decide +kernel
theorem dX6_moved_344 : decode cX6_moved 344 = .ok (.iload_n 3, 1) := by decide +kernel
theorem dX6_moved_345 : decode cX6_moved 345 = .ok (.iastore, 1) := by decide +kernel
theorem dX6_moved_346 : decode cX6_moved 346 = .ok (.aload_n 0, 1) := by decide +kernel
theorem dX6_moved_347 : decode cX6_moved 347 = .ok (.getfield 96, 3) := by decide +kernel
theorem dX6_moved_350 : decode cX6_moved 350 = .ok (.iload 5, 2) := by decide +kernel
theorem dX6_moved_352 : decode cX6_moved 352 = .ok (.iload_n 3, 1) := by decide +kernel
theorem dX6_moved_353 : decode cX6_moved 353 = .ok (.iastore, 1) := by decide +kernel
theorem dX6_moved_354 : decode cX6_moved 354 = .ok (.aload_n 0, 1) := by decide +kernel
theorem dX6_moved_355 : decode cX6_moved 355 = .ok (.iload_n 2, 1) := by decide +kernel
theorem dX6_moved_356 : decode cX6_moved 356 = .ok (.iload 5, 2) := by decide +kernel
theorem dX6_moved_358 : decode cX6_moved 358 = .ok (.invokevirtual 210, 3) := by decide +kernel
theorem dX6_moved_361 : decode cX6_moved 361 = .ok (.return_, 1) := by decide +kernel
theorem dX6_taken_0 : decode cX6_taken 0 = .ok (.bipush 16, 2) := by decide +kernel
theorem dX6_taken_2 : decode cX6_taken 2 = .ok (.aload_n 0, 1) := by decide +kernel
theorem dX6_taken_3 : decode cX6_taken 3 = .ok (.getfield 87, 3) := by decide +kernel
theorem dX6_taken_6 : decode cX6_taken 6 = .ok (.iload_n 1, 1) := by decide +kernel
theorem dX6_taken_7 : decode cX6_taken 7 = .ok (.iaload, 1) := by decide +kernel
theorem dX6_taken_8 : decode cX6_taken 8 = .ok (.imul, 1) := by decide +kernel
theorem dX6_taken_9 : decode cX6_taken 9 = .ok (.aload_n 0, 1) := by decide +kernel
theorem dX6_taken_10 : decode cX6_taken 10 = .ok (.getfield 102, 3) := by decide +kernel
theorem dX6_taken_13 : decode cX6_taken 13 = .ok (.iload_n 1, 1) := by decide +kernel
theorem dX6_taken_14 : decode cX6_taken 14 = .ok (.iaload, 1) := by decide +kernel
theorem dX6_taken_15 : decode cX6_taken 15 = .ok (.iadd, 1) := by decide +kernel
theorem dX6_taken_16 : decode cX6_taken 16 = .ok (.istore_n 2, 1) := by decide +kernel
theorem dX6_taken_17 : decode cX6_taken 17 = .ok (.aload_n 0, 1) := by decide +kernel
theorem dX6_taken_18 : decode cX6_taken 18 = .ok (.getfield 41, 3) := by decide +kernel
theorem dX6_taken_21 : decode cX6_taken 21 = .ok (.iload_n 2, 1) := by decide +kernel
theorem dX6_taken_22 : decode cX6_taken 22 = .ok (.iaload, 1) := by decide +kernel
theorem dX6_taken_23 : decode cX6_taken 23 = .ok (.iconst 2, 1) := by decide +kernel
theorem dX6_taken_24 : decode cX6_taken 24 = .ok (.if_icmp .ne 20, 3) := by decide +kernel
theorem dX6_taken_27 : decode cX6_taken 27 = .ok (.aload_n 0, 1) := by decide +kernel
theorem dX6_taken_28 : decode cX6_taken 28 = .ok (.getfield 44, 3) := by decide +kernel
theorem dX6_taken_31 : decode cX6_taken 31 = .ok (.iload_n 2, 1) := by decide +kernel
theorem dX6_taken_32 : decode cX6_taken 32 = .ok (.iaload, 1) := by decide +kernel
theorem dX6_taken_33 : decode cX6_taken 33 = .ok (.aload_n 0, 1) := by decide +kernel
theorem dX6_taken_34 : decode cX6_taken 34 = .ok (.getfield 93, 3) := by decide +kernel
theorem dX6_taken_37 : decode cX6_taken 37 = .ok (.iload_n 1, 1) := by decide +kernel
theorem dX6_taken_38 : decode cX6_taken 38 = .ok (.iaload, 1) := by decide +kernel
theorem dX6_taken_39 : decode cX6_taken 39 = .ok (.iconst 1, 1) := by decide +kernel
theorem dX6_taken_40 : decode cX6_taken 40 = .ok (.isub, 1) := by decide +kernel
theorem dX6_taken_41 : decode cX6_taken 41 = .ok (.if_icmp .eq 4, 3) := by decide +kernel
theorem dX6_taken_44 : decode cX6_taken 44 = .ok (.return_, 1) := by decide +kernel
theorem dX6_taken_45 : decode cX6_taken 45 = .ok (.aload_n 0, 1) := by decide +kernel
theorem dX6_taken_46 : decode cX6_taken 46 = .ok (.getfield 78, 3) := by decide +kernel
theorem dX6_taken_49 : decode cX6_taken 49 = .ok (.aload_n 0, 1) := by decide +kernel
theorem dX6_taken_50 : decode cX6_taken 50 = .ok (.getfield 87, 3) := by decide +kernel
theorem dX6_taken_53 : decode cX6_taken 53 = .ok (.iload_n 1, 1) := by decide +kernel
theorem dX6_taken_54 : decode cX6_taken 54 = .ok (.iaload, 1) := by decide +kernel
theorem dX6_taken_55 : decode cX6_taken 55 = .ok (.iconst 1, 1) := by decide +kernel
theorem dX6_taken_56 : decode cX6_taken 56 = .ok (.bastore, 1) := by decide +kernel
theorem dX6_taken_57 : decode cX6_taken 57 = .ok (.aload_n 0, 1) := by decide +kernel
theorem dX6_taken_58 : decode cX6_taken 58 = .ok (.getfield 41, 3) := by decide +kernel
theorem dX6_taken_61 : decode cX6_taken 61 = .ok (.iload_n 2, 1) := by decide +kernel
theorem dX6_taken_62 : decode cX6_taken 62 = .ok (.iconst 0, 1) := by decide +kernel
theorem dX6_taken_63 : decode cX6_taken 63 = .ok (.iastore, 1) := by decide +kernel
theorem dX6_taken_64 : decode cX6_taken 64 = .ok (.aload_n 0, 1) := by decide +kernel
theorem dX6_taken_65 : decode cX6_taken 65 = .ok (.getfield 44, 3) := by decide +kernel
theorem dX6_taken_68 : decode cX6_taken 68 = .ok (.iload_n 2, 1) := by decide +kernel
theorem dX6_taken_69 : decode cX6_taken 69 = .ok (.aload_n 0, 1) := by decide +kernel
theorem dX6_taken_70 : decode cX6_taken 70 = .ok (.getfield 93, 3) := by decide +kernel
theorem dX6_taken_73 : decode cX6_taken 73 = .ok (.iload_n 1, 1) := by decide +kernel
theorem dX6_taken_74 : decode cX6_taken 74 = .ok (.iaload, 1) := by decide +kernel
theorem dX6_taken_75 : decode cX6_taken 75 = .ok (.iastore, 1) := by decide +kernel
theorem dX6_taken_76 : decode cX6_taken 76 = .ok (.aload_n 0, 1) := by decide +kernel
theorem dX6_taken_77 : decode cX6_taken 77 = .ok (.getfield 53, 3) := by decide +kernel
theorem dX6_taken_80 : decode cX6_taken 80 = .ok (.iload_n 2, 1) := by decide +kernel
theorem dX6_taken_81 : decode cX6_taken 81 = .ok (.iconst 0, 1) := by decide +kernel
theorem dX6_taken_82 : decode cX6_taken 82 = .ok (.iastore, 1) := by decide +kernel
theorem dX6_taken_83 : decode cX6_taken 83 = .ok (.iconst 0, 1) := by decide +kernel
theorem dX6_taken_84 : decode cX6_taken 84 = .ok (.istore_n 3, 1) := by decide +kernel
theorem dX6_taken_85 : decode cX6_taken 85 = .ok (.iload_n 3, 1) := by decide +kernel
theorem dX6_taken_86 : decode cX6_taken 86 = .ok (.iconst 4, 1) := by decide +kernel
theorem dX6_taken_87 : decode cX6_taken 87 = .ok (.if_icmp .ge 20, 3) := by decide +kernel
theorem dX6_taken_90 : decode cX6_taken 90 = .ok (.aload_n 0, 1) := by decide +kernel
theorem dX6_taken_91 : decode cX6_taken 91 = .ok (.getfield 50, 3) := by decide +kernel
theorem dX6_taken_94 : decode cX6_taken 94 = .ok (.iconst 4, 1) := by decide +kernel
theorem dX6_taken_95 : decode cX6_taken 95 = .ok (.iload_n 2, 1) := by decide +kernel
theorem dX6_taken_96 : decode cX6_taken 96 = .ok (.imul, 1) := by decide +kernel
theorem dX6_taken_97 : decode cX6_taken 97 = .ok (.iload_n 3, 1) := by decide +kernel
theorem dX6_taken_98 : decode cX6_taken 98 = .ok (.iadd, 1) := by decide +kernel
theorem dX6_taken_99 : decode cX6_taken 99 = .ok (.lconst 0, 1) := by decide +kernel
theorem dX6_taken_100 : decode cX6_taken 100 = .ok (.lastore, 1) := by decide +kernel
theorem dX6_taken_101 : decode cX6_taken 101 = .ok (.iinc 3 1, 3) := by decide +kernel
theorem dX6_taken_104 : decode cX6_taken 104 = .ok (.goto (-19), 3) := by decide +kernel
theorem dX6_taken_107 : decode cX6_taken 107 = .ok (.iconst 0, 1) := by decide +kernel
theorem dX6_taken_108 : decode cX6_taken 108 = .ok (.istore_n 3, 1) := by decide +kernel
theorem dX6_taken_109 : decode cX6_taken 109 = .ok (.iload_n 3, 1) := by decide +kernel
theorem dX6_taken_110 : decode cX6_taken 110 = .ok (.bipush 6, 2) := by decide +kernel
theorem dX6_taken_112 : decode cX6_taken 112 = .ok (.if_icmp .ge 33, 3) := by decide +kernel
theorem dX6_taken_115 : decode cX6_taken 115 = .ok (.aload_n 0, 1) := by decide +kernel
theorem dX6_taken_116 : decode cX6_taken 116 = .ok (.getfield 68, 3) := by decide +kernel
theorem dX6_taken_119 : decode cX6_taken 119 = .ok (.bipush 6, 2) := by decide +kernel
theorem dX6_taken_121 : decode cX6_taken 121 = .ok (.iload_n 2, 1) := by decide +kernel
theorem dX6_taken_122 : decode cX6_taken 122 = .ok (.imul, 1) := by decide +kernel
theorem dX6_taken_123 : decode cX6_taken 123 = .ok (.iload_n 3, 1) := by decide +kernel
theorem dX6_taken_124 : decode cX6_taken 124 = .ok (.iadd, 1) := by decide +kernel
theorem dX6_taken_125 : decode cX6_taken 125 = .ok (.iconst 0, 1) := by decide +kernel
theorem dX6_taken_126 : decode cX6_taken 126 = .ok (.iastore, 1) := by decide +kernel
theorem dX6_taken_127 : decode cX6_taken 127 = .ok (.aload_n 0, 1) := by decide +kernel
theorem dX6_taken_128 : decode cX6_taken 128 = .ok (.getfield 71, 3) := by decide +kernel
theorem dX6_taken_131 : decode cX6_taken 131 = .ok (.bipush 6, 2) := by decide +kernel
theorem dX6_taken_133 : decode cX6_taken 133 = .ok (.iload_n 2, 1) := by decide +kernel
theorem dX6_taken_134 : decode cX6_taken 134 = .ok (.imul, 1) := by decide +kernel
theorem dX6_taken_135 : decode cX6_taken 135 = .ok (.iload_n 3, 1) := by decide +kernel
theorem dX6_taken_136 : decode cX6_taken 136 = .ok (.iadd, 1) := by decide +kernel
theorem dX6_taken_137 : decode cX6_taken 137 = .ok (.iconst 0, 1) := by decide +kernel
theorem dX6_taken_138 : decode cX6_taken 138 = .ok (.iastore, 1) := by decide +kernel
theorem dX6_taken_139 : decode cX6_taken 139 = .ok (.iinc 3 1, 3) := by decide +kernel
theorem dX6_taken_142 : decode cX6_taken 142 = .ok (.goto (-33), 3) := by decide +kernel
theorem dX6_taken_145 : decode cX6_taken 145 = .ok (.return_, 1) := by decide +kernel
theorem dX6_deliver_0 : decode cX6_deliver 0 = .ok (.iload_n 1, 1) := by decide +kernel
theorem dX6_deliver_1 : decode cX6_deliver 1 = .ok (.iconst 0, 1) := by decide +kernel
theorem dX6_deliver_2 : decode cX6_deliver 2 = .ok (.aload_n 0, 1) := by decide +kernel
theorem dX6_deliver_3 : decode cX6_deliver 3 = .ok (.getfield 162, 3) := by decide +kernel
theorem dX6_deliver_6 : decode cX6_deliver 6 = .ok (.iconst 1, 1) := by decide +kernel
theorem dX6_deliver_7 : decode cX6_deliver 7 = .ok (.isub, 1) := by decide +kernel
theorem dX6_deliver_8 : decode cX6_deliver 8 = .ok (.invokestatic 152, 3) := by decide +kernel
theorem dX6_deliver_11 : decode cX6_deliver 11 = .ok (.ifCond .ne 5, 3) := by decide +kernel
theorem dX6_deliver_14 : decode cX6_deliver 14 = .ok (.iconst (-1), 1) := by decide +kernel
theorem dX6_deliver_15 : decode cX6_deliver 15 = .ok (.ireturn, 1) := by decide +kernel
theorem dX6_deliver_16 : decode cX6_deliver 16 = .ok (.aload_n 0, 1) := by decide +kernel
theorem dX6_deliver_17 : decode cX6_deliver 17 = .ok (.iload_n 1, 1) := by decide +kernel
theorem dX6_deliver_18 : decode cX6_deliver 18 = .ok (.invokevirtual 228, 3) := by decide +kernel
theorem dX6_deliver_21 : decode cX6_deliver 21 = .ok (.istore_n 2, 1) := by decide +kernel
theorem dX6_deliver_22 : decode cX6_deliver 22 = .ok (.aload_n 0, 1) := by decide +kernel
theorem dX6_deliver_23 : decode cX6_deliver 23 = .ok (.getfield 84, 3) := by decide +kernel
theorem dX6_deliver_26 : decode cX6_deliver 26 = .ok (.iload_n 2, 1) := by decide +kernel
theorem dX6_deliver_27 : decode cX6_deliver 27 = .ok (.iaload, 1) := by decide +kernel
theorem dX6_deliver_28 : decode cX6_deliver 28 = .ok (.istore_n 3, 1) := by decide +kernel
theorem dX6_deliver_29 : decode cX6_deliver 29 = .ok (.iload_n 3, 1) := by decide +kernel
theorem dX6_deliver_30 : decode cX6_deliver 30 = .ok (.iconst 2, 1) := by decide +kernel
theorem dX6_deliver_31 : decode cX6_deliver 31 = .ok (.if_icmp .eq 39, 3) := by decide +kernel
theorem dX6_deliver_34 : decode cX6_deliver 34 = .ok (.aload_n 0, 1) := by decide +kernel
theorem dX6_deliver_35 : decode cX6_deliver 35 = .ok (.getfield 74, 3) := by decide +kernel
theorem dX6_deliver_38 : decode cX6_deliver 38 = .ok (.aload_n 0, 1) := by decide +kernel
theorem dX6_deliver_39 : decode cX6_deliver 39 = .ok (.getfield 87, 3) := by decide +kernel
theorem dX6_deliver_42 : decode cX6_deliver 42 = .ok (.iload_n 2, 1) := by decide +kernel
theorem dX6_deliver_43 : decode cX6_deliver 43 = .ok (.iaload, 1) := by decide +kernel
theorem dX6_deliver_44 : decode cX6_deliver 44 = .ok (.baload, 1) := by decide +kernel
theorem dX6_deliver_45 : decode cX6_deliver 45 = .ok (.ifCond .ne 25, 3) := by decide +kernel
theorem dX6_deliver_48 : decode cX6_deliver 48 = .ok (.aload_n 0, 1) := by decide +kernel
theorem dX6_deliver_49 : decode cX6_deliver 49 = .ok (.getfield 81, 3) := by decide +kernel
theorem dX6_deliver_52 : decode cX6_deliver 52 = .ok (.iload_n 2, 1) := by decide +kernel
theorem dX6_deliver_53 : decode cX6_deliver 53 = .ok (.iconst 0, 1) := by decide +kernel
theorem dX6_deliver_54 : decode cX6_deliver 54 = .ok (.bastore, 1) := by decide +kernel
theorem dX6_deliver_55 : decode cX6_deliver 55 = .ok (.aload_n 0, 1) := by decide +kernel
theorem dX6_deliver_56 : decode cX6_deliver 56 = .ok (.dup, 1) := by decide +kernel
theorem dX6_deliver_57 : decode cX6_deliver 57 = .ok (.getfield 165, 3) := by decide +kernel
theorem dX6_deliver_60 : decode cX6_deliver 60 = .ok (.iconst 1, 1) := by decide +kernel
theorem dX6_deliver_61 : decode cX6_deliver 61 = .ok (.iadd, 1) := by decide +kernel
theorem dX6_deliver_62 : decode cX6_deliver 62 = .ok (.putfield 165, 3) := by decide +kernel
theorem dX6_deliver_65 : decode cX6_deliver 65 = .ok (.bipush 10, 2) := by decide +kernel
theorem dX6_deliver_67 : decode cX6_deliver 67 = .ok (.iload_n 3, 1) := by decide +kernel
theorem dX6_deliver_68 : decode cX6_deliver 68 = .ok (.iadd, 1) := by decide +kernel
theorem dX6_deliver_69 : decode cX6_deliver 69 = .ok (.ireturn, 1) := by decide +kernel
theorem dX6_deliver_70 : decode cX6_deliver 70 = .ok (.iload_n 3, 1) := by decide +kernel
theorem dX6_deliver_71 : decode cX6_deliver 71 = .ok (.tableswitch 61 1 4 #[29, 37, 45, 53], 29) := by decide +kernel
theorem dX6_deliver_100 : decode cX6_deliver 100 = .ok (.aload_n 0, 1) := by decide +kernel
theorem dX6_deliver_101 : decode cX6_deliver 101 = .ok (.iload_n 2, 1) := by decide +kernel
theorem dX6_deliver_102 : decode cX6_deliver 102 = .ok (.invokevirtual 231, 3) := by decide +kernel
theorem dX6_deliver_105 : decode cX6_deliver 105 = .ok (.goto 104, 3) := by decide +kernel
theorem dX6_deliver_108 : decode cX6_deliver 108 = .ok (.aload_n 0, 1) := by decide +kernel
theorem dX6_deliver_109 : decode cX6_deliver 109 = .ok (.iload_n 2, 1) := by decide +kernel
theorem dX6_deliver_110 : decode cX6_deliver 110 = .ok (.invokevirtual 234, 3) := by decide +kernel
theorem dX6_deliver_113 : decode cX6_deliver 113 = .ok (.goto 96, 3) := by decide +kernel
theorem dX6_deliver_116 : decode cX6_deliver 116 = .ok (.aload_n 0, 1) := by decide +kernel
theorem dX6_deliver_117 : decode cX6_deliver 117 = .ok (.iload_n 2, 1) := by decide +kernel
theorem dX6_deliver_118 : decode cX6_deliver 118 = .ok (.invokevirtual 237, 3) := by decide +kernel
theorem dX6_deliver_121 : decode cX6_deliver 121 = .ok (.goto 88, 3) := by decide +kernel
theorem dX6_deliver_124 : decode cX6_deliver 124 = .ok (.aload_n 0, 1) := by decide +kernel
theorem dX6_deliver_125 : decode cX6_deliver 125 = .ok (.iload_n 2, 1) := by decide +kernel
theorem dX6_deliver_126 : decode cX6_deliver 126 = .ok (.invokevirtual 240, 3) := by decide +kernel
theorem dX6_deliver_129 : decode cX6_deliver 129 = .ok (.goto 80, 3) := by decide +kernel
theorem dX6_deliver_132 : decode cX6_deliver 132 = .ok (.iconst 0, 1) := by decide +kernel
theorem dX6_deliver_133 : decode cX6_deliver 133 = .ok (.istore 4, 2) := by decide +kernel
theorem dX6_deliver_135 : decode cX6_deliver 135 = .ok (.iload 4, 2) := by decide +kernel
theorem dX6_deliver_137 : decode cX6_deliver 137 = .ok (.bipush 8, 2) := by decide +kernel
theorem dX6_deliver_139 : decode cX6_deliver 139 = .ok (.if_icmp .ge 70, 3) := by decide +kernel
theorem dX6_deliver_142 : decode cX6_deliver 142 = .ok (.aload_n 0, 1) := by decide +kernel
theorem dX6_deliver_143 : decode cX6_deliver 143 = .ok (.getfield 41, 3) := by decide +kernel
theorem dX6_deliver_146 : decode cX6_deliver 146 = .ok (.bipush 16, 2) := by decide +kernel
theorem dX6_deliver_148 : decode cX6_deliver 148 = .ok (.aload_n 0, 1) := by decide +kernel
theorem dX6_deliver_149 : decode cX6_deliver 149 = .ok (.getfield 87, 3) := by decide +kernel
theorem dX6_deliver_152 : decode cX6_deliver 152 = .ok (.iload_n 2, 1) := by decide +kernel
theorem dX6_deliver_153 : decode cX6_deliver 153 = .ok (.iaload, 1) := by decide +kernel
theorem dX6_deliver_154 : decode cX6_deliver 154 = .ok (.imul, 1) := by decide +kernel
theorem dX6_deliver_155 : decode cX6_deliver 155 = .ok (.iload 4, 2) := by decide +kernel
theorem dX6_deliver_157 : decode cX6_deliver 157 = .ok (.iadd, 1) := by decide +kernel
theorem dX6_deliver_158 : decode cX6_deliver 158 = .ok (.iaload, 1) := by decide +kernel
theorem dX6_deliver_159 : decode cX6_deliver 159 = .ok (.iconst 1, 1) := by decide +kernel
theorem dX6_deliver_160 : decode cX6_deliver 160 = .ok (.if_icmp .ne 43, 3) := by decide +kernel
theorem dX6_deliver_163 : decode cX6_deliver 163 = .ok (.aload_n 0, 1) := by decide +kernel
theorem dX6_deliver_164 : decode cX6_deliver 164 = .ok (.aload_n 0, 1) := by decide +kernel
theorem dX6_deliver_165 : decode cX6_deliver 165 = .ok (.getfield 87, 3) := by decide +kernel
theorem dX6_deliver_168 : decode cX6_deliver 168 = .ok (.iload_n 2, 1) := by decide +kernel
theorem dX6_deliver_169 : decode cX6_deliver 169 = .ok (.iaload, 1) := by decide +kernel
theorem dX6_deliver_170 : decode cX6_deliver 170 = .ok (.bipush 16, 2) := by decide +kernel
theorem dX6_deliver_172 : decode cX6_deliver 172 = .ok (.aload_n 0, 1) := by decide +kernel
theorem dX6_deliver_173 : decode cX6_deliver 173 = .ok (.getfield 87, 3) := by decide +kernel
theorem dX6_deliver_176 : decode cX6_deliver 176 = .ok (.iload_n 2, 1) := by decide +kernel
theorem dX6_deliver_177 : decode cX6_deliver 177 = .ok (.iaload, 1) := by decide +kernel
theorem dX6_deliver_178 : decode cX6_deliver 178 = .ok (.imul, 1) := by decide +kernel
theorem dX6_deliver_179 : decode cX6_deliver 179 = .ok (.iload 4, 2) := by decide +kernel
theorem dX6_deliver_181 : decode cX6_deliver 181 = .ok (.iadd, 1) := by decide +kernel
theorem dX6_deliver_182 : decode cX6_deliver 182 = .ok (.aload_n 0, 1) := by decide +kernel
theorem dX6_deliver_183 : decode cX6_deliver 183 = .ok (.getfield 90, 3) := by decide +kernel
theorem dX6_deliver_186 : decode cX6_deliver 186 = .ok (.iload_n 2, 1) := by decide +kernel
theorem dX6_deliver_187 : decode cX6_deliver 187 = .ok (.iaload, 1) := by decide +kernel
theorem dX6_deliver_188 : decode cX6_deliver 188 = .ok (.aload_n 0, 1) := by decide +kernel
theorem dX6_deliver_189 : decode cX6_deliver 189 = .ok (.getfield 93, 3) := by decide +kernel
theorem dX6_deliver_192 : decode cX6_deliver 192 = .ok (.iload_n 2, 1) := by decide +kernel
theorem dX6_deliver_193 : decode cX6_deliver 193 = .ok (.iaload, 1) := by decide +kernel
theorem dX6_deliver_194 : decode cX6_deliver 194 = .ok (.aload_n 0, 1) := by decide +kernel
theorem dX6_deliver_195 : decode cX6_deliver 195 = .ok (.getfield 96, 3) := by decide +kernel
theorem dX6_deliver_198 : decode cX6_deliver 198 = .ok (.iload_n 2, 1) := by decide +kernel
theorem dX6_deliver_199 : decode cX6_deliver 199 = .ok (.iaload, 1) := by decide +kernel
theorem dX6_deliver_200 : decode cX6_deliver 200 = .ok (.invokevirtual 217, 3) := by decide +kernel
theorem dX6_deliver_203 : decode cX6_deliver 203 = .ok (.iinc 4 1, 3) := by decide +kernel
theorem dX6_deliver_206 : decode cX6_deliver 206 = .ok (.goto (-71), 3) := by decide +kernel
theorem dX6_deliver_209 : decode cX6_deliver 209 = .ok (.aload_n 0, 1) := by decide +kernel
theorem dX6_deliver_210 : decode cX6_deliver 210 = .ok (.getfield 81, 3) := by decide +kernel
theorem dX6_deliver_213 : decode cX6_deliver 213 = .ok (.iload_n 2, 1) := by decide +kernel
theorem dX6_deliver_214 : decode cX6_deliver 214 = .ok (.iconst 0, 1) := by decide +kernel
theorem dX6_deliver_215 : decode cX6_deliver 215 = .ok (.bastore, 1) := by decide +kernel
theorem dX6_deliver_216 : decode cX6_deliver 216 = .ok (.iload_n 3, 1) := by decide +kernel
theorem dX6_deliver_217 : decode cX6_deliver 217 = .ok (.ireturn, 1) := by decide +kernel
theorem dX6_drop_0 : decode cX6_drop 0 = .ok (.iload_n 1, 1) := by decide +kernel
theorem dX6_drop_1 : decode cX6_drop 1 = .ok (.iconst 0, 1) := by decide +kernel
theorem dX6_drop_2 : decode cX6_drop 2 = .ok (.aload_n 0, 1) := by decide +kernel
theorem dX6_drop_3 : decode cX6_drop 3 = .ok (.getfield 162, 3) := by decide +kernel
theorem dX6_drop_6 : decode cX6_drop 6 = .ok (.iconst 1, 1) := by decide +kernel
theorem dX6_drop_7 : decode cX6_drop 7 = .ok (.isub, 1) := by decide +kernel
theorem dX6_drop_8 : decode cX6_drop 8 = .ok (.invokestatic 152, 3) := by decide +kernel
theorem dX6_drop_11 : decode cX6_drop 11 = .ok (.ifCond .ne 5, 3) := by decide +kernel
theorem dX6_drop_14 : decode cX6_drop 14 = .ok (.iconst (-1), 1) := by decide +kernel
theorem dX6_drop_15 : decode cX6_drop 15 = .ok (.ireturn, 1) := by decide +kernel
theorem dX6_drop_16 : decode cX6_drop 16 = .ok (.aload_n 0, 1) := by decide +kernel
theorem dX6_drop_17 : decode cX6_drop 17 = .ok (.iload_n 1, 1) := by decide +kernel
theorem dX6_drop_18 : decode cX6_drop 18 = .ok (.invokevirtual 228, 3) := by decide +kernel
theorem dX6_drop_21 : decode cX6_drop 21 = .ok (.istore_n 2, 1) := by decide +kernel
theorem dX6_drop_22 : decode cX6_drop 22 = .ok (.aload_n 0, 1) := by decide +kernel
theorem dX6_drop_23 : decode cX6_drop 23 = .ok (.getfield 81, 3) := by decide +kernel
theorem dX6_drop_26 : decode cX6_drop 26 = .ok (.iload_n 2, 1) := by decide +kernel
theorem dX6_drop_27 : decode cX6_drop 27 = .ok (.iconst 0, 1) := by decide +kernel
theorem dX6_drop_28 : decode cX6_drop 28 = .ok (.bastore, 1) := by decide +kernel
theorem dX6_drop_29 : decode cX6_drop 29 = .ok (.aload_n 0, 1) := by decide +kernel
theorem dX6_drop_30 : decode cX6_drop 30 = .ok (.dup, 1) := by decide +kernel
theorem dX6_drop_31 : decode cX6_drop 31 = .ok (.getfield 165, 3) := by decide +kernel
theorem dX6_drop_34 : decode cX6_drop 34 = .ok (.iconst 1, 1) := by decide +kernel
theorem dX6_drop_35 : decode cX6_drop 35 = .ok (.iadd, 1) := by decide +kernel
theorem dX6_drop_36 : decode cX6_drop 36 = .ok (.putfield 165, 3) := by decide +kernel
theorem dX6_drop_39 : decode cX6_drop 39 = .ok (.aload_n 0, 1) := by decide +kernel
theorem dX6_drop_40 : decode cX6_drop 40 = .ok (.getfield 84, 3) := by decide +kernel
theorem dX6_drop_43 : decode cX6_drop 43 = .ok (.iload_n 2, 1) := by decide +kernel
theorem dX6_drop_44 : decode cX6_drop 44 = .ok (.iaload, 1) := by decide +kernel
theorem dX6_drop_45 : decode cX6_drop 45 = .ok (.ireturn, 1) := by decide +kernel
theorem dX6_twin_0 : decode cX6_twin 0 = .ok (.iload_n 1, 1) := by decide +kernel
theorem dX6_twin_1 : decode cX6_twin 1 = .ok (.iconst 0, 1) := by decide +kernel
theorem dX6_twin_2 : decode cX6_twin 2 = .ok (.aload_n 0, 1) := by decide +kernel
theorem dX6_twin_3 : decode cX6_twin 3 = .ok (.getfield 162, 3) := by decide +kernel
theorem dX6_twin_6 : decode cX6_twin 6 = .ok (.iconst 1, 1) := by decide +kernel
theorem dX6_twin_7 : decode cX6_twin 7 = .ok (.isub, 1) := by decide +kernel
theorem dX6_twin_8 : decode cX6_twin 8 = .ok (.invokestatic 152, 3) := by decide +kernel
theorem dX6_twin_11 : decode cX6_twin 11 = .ok (.ifCond .ne 5, 3) := by decide +kernel
theorem dX6_twin_14 : decode cX6_twin 14 = .ok (.iconst (-1), 1) := by decide +kernel
theorem dX6_twin_15 : decode cX6_twin 15 = .ok (.ireturn, 1) := by decide +kernel
theorem dX6_twin_16 : decode cX6_twin 16 = .ok (.aload_n 0, 1) := by decide +kernel
theorem dX6_twin_17 : decode cX6_twin 17 = .ok (.getfield 162, 3) := by decide +kernel
theorem dX6_twin_20 : decode cX6_twin 20 = .ok (.sipush 400, 3) := by decide +kernel
theorem dX6_twin_23 : decode cX6_twin 23 = .ok (.if_icmp .ne 6, 3) := by decide +kernel
theorem dX6_twin_26 : decode cX6_twin 26 = .ok (.bipush (-2), 2) := by decide +kernel
theorem dX6_twin_28 : decode cX6_twin 28 = .ok (.ireturn, 1) := by decide +kernel
theorem dX6_twin_29 : decode cX6_twin 29 = .ok (.aload_n 0, 1) := by decide +kernel
theorem dX6_twin_30 : decode cX6_twin 30 = .ok (.getfield 136, 3) := by decide +kernel
theorem dX6_twin_33 : decode cX6_twin 33 = .ok (.iload_n 1, 1) := by decide +kernel
theorem dX6_twin_34 : decode cX6_twin 34 = .ok (.iaload, 1) := by decide +kernel
theorem dX6_twin_35 : decode cX6_twin 35 = .ok (.istore_n 2, 1) := by decide +kernel
theorem dX6_twin_36 : decode cX6_twin 36 = .ok (.aload_n 0, 1) := by decide +kernel
theorem dX6_twin_37 : decode cX6_twin 37 = .ok (.aload_n 0, 1) := by decide +kernel
theorem dX6_twin_38 : decode cX6_twin 38 = .ok (.getfield 84, 3) := by decide +kernel
theorem dX6_twin_41 : decode cX6_twin 41 = .ok (.iload_n 2, 1) := by decide +kernel
theorem dX6_twin_42 : decode cX6_twin 42 = .ok (.iaload, 1) := by decide +kernel
theorem dX6_twin_43 : decode cX6_twin 43 = .ok (.aload_n 0, 1) := by decide +kernel
theorem dX6_twin_44 : decode cX6_twin 44 = .ok (.getfield 87, 3) := by decide +kernel
theorem dX6_twin_47 : decode cX6_twin 47 = .ok (.iload_n 2, 1) := by decide +kernel
theorem dX6_twin_48 : decode cX6_twin 48 = .ok (.iaload, 1) := by decide +kernel
theorem dX6_twin_49 : decode cX6_twin 49 = .ok (.aload_n 0, 1) := by decide +kernel
theorem dX6_twin_50 : decode cX6_twin 50 = .ok (.getfield 90, 3) := by decide +kernel
theorem dX6_twin_53 : decode cX6_twin 53 = .ok (.iload_n 2, 1) := by decide +kernel
theorem dX6_twin_54 : decode cX6_twin 54 = .ok (.iaload, 1) := by decide +kernel
theorem dX6_twin_55 : decode cX6_twin 55 = .ok (.invokevirtual 182, 3) := by decide +kernel
theorem dX6_twin_58 : decode cX6_twin 58 = .ok (.istore_n 3, 1) := by decide +kernel
theorem dX6_twin_59 : decode cX6_twin 59 = .ok (.aload_n 0, 1) := by decide +kernel
theorem dX6_twin_60 : decode cX6_twin 60 = .ok (.getfield 93, 3) := by decide +kernel
theorem dX6_twin_63 : decode cX6_twin 63 = .ok (.iload_n 3, 1) := by decide +kernel
theorem dX6_twin_64 : decode cX6_twin 64 = .ok (.aload_n 0, 1) := by decide +kernel
theorem dX6_twin_65 : decode cX6_twin 65 = .ok (.getfield 93, 3) := by decide +kernel
theorem dX6_twin_68 : decode cX6_twin 68 = .ok (.iload_n 2, 1) := by decide +kernel
theorem dX6_twin_69 : decode cX6_twin 69 = .ok (.iaload, 1) := by decide +kernel
theorem dX6_twin_70 : decode cX6_twin 70 = .ok (.iastore, 1) := by decide +kernel
theorem dX6_twin_71 : decode cX6_twin 71 = .ok (.aload_n 0, 1) := by decide +kernel
theorem dX6_twin_72 : decode cX6_twin 72 = .ok (.getfield 96, 3) := by decide +kernel
theorem dX6_twin_75 : decode cX6_twin 75 = .ok (.iload_n 3, 1) := by decide +kernel
theorem dX6_twin_76 : decode cX6_twin 76 = .ok (.aload_n 0, 1) := by decide +kernel
theorem dX6_twin_77 : decode cX6_twin 77 = .ok (.getfield 96, 3) := by decide +kernel
theorem dX6_twin_80 : decode cX6_twin 80 = .ok (.iload_n 2, 1) := by decide +kernel
theorem dX6_twin_81 : decode cX6_twin 81 = .ok (.iaload, 1) := by decide +kernel
theorem dX6_twin_82 : decode cX6_twin 82 = .ok (.iastore, 1) := by decide +kernel
theorem dX6_twin_83 : decode cX6_twin 83 = .ok (.aload_n 0, 1) := by decide +kernel
theorem dX6_twin_84 : decode cX6_twin 84 = .ok (.getfield 99, 3) := by decide +kernel
theorem dX6_twin_87 : decode cX6_twin 87 = .ok (.iload_n 3, 1) := by decide +kernel
theorem dX6_twin_88 : decode cX6_twin 88 = .ok (.aload_n 0, 1) := by decide +kernel
theorem dX6_twin_89 : decode cX6_twin 89 = .ok (.getfield 99, 3) := by decide +kernel
theorem dX6_twin_92 : decode cX6_twin 92 = .ok (.iload_n 2, 1) := by decide +kernel
theorem dX6_twin_93 : decode cX6_twin 93 = .ok (.iaload, 1) := by decide +kernel
theorem dX6_twin_94 : decode cX6_twin 94 = .ok (.iastore, 1) := by decide +kernel
theorem dX6_twin_95 : decode cX6_twin 95 = .ok (.aload_n 0, 1) := by decide +kernel
theorem dX6_twin_96 : decode cX6_twin 96 = .ok (.getfield 102, 3) := by decide +kernel
theorem dX6_twin_99 : decode cX6_twin 99 = .ok (.iload_n 3, 1) := by decide +kernel
theorem dX6_twin_100 : decode cX6_twin 100 = .ok (.aload_n 0, 1) := by decide +kernel
theorem dX6_twin_101 : decode cX6_twin 101 = .ok (.getfield 102, 3) := by decide +kernel
theorem dX6_twin_104 : decode cX6_twin 104 = .ok (.iload_n 2, 1) := by decide +kernel
theorem dX6_twin_105 : decode cX6_twin 105 = .ok (.iaload, 1) := by decide +kernel
theorem dX6_twin_106 : decode cX6_twin 106 = .ok (.iastore, 1) := by decide +kernel
theorem dX6_twin_107 : decode cX6_twin 107 = .ok (.aload_n 0, 1) := by decide +kernel
theorem dX6_twin_108 : decode cX6_twin 108 = .ok (.getfield 105, 3) := by decide +kernel
theorem dX6_twin_111 : decode cX6_twin 111 = .ok (.iload_n 3, 1) := by decide +kernel
theorem dX6_twin_112 : decode cX6_twin 112 = .ok (.aload_n 0, 1) := by decide +kernel
theorem dX6_twin_113 : decode cX6_twin 113 = .ok (.getfield 105, 3) := by decide +kernel
theorem dX6_twin_116 : decode cX6_twin 116 = .ok (.iload_n 2, 1) := by decide +kernel
theorem dX6_twin_117 : decode cX6_twin 117 = .ok (.iaload, 1) := by decide +kernel
theorem dX6_twin_118 : decode cX6_twin 118 = .ok (.iastore, 1) := by decide +kernel
theorem dX6_twin_119 : decode cX6_twin 119 = .ok (.aload_n 0, 1) := by decide +kernel
theorem dX6_twin_120 : decode cX6_twin 120 = .ok (.getfield 108, 3) := by decide +kernel
theorem dX6_twin_123 : decode cX6_twin 123 = .ok (.iload_n 3, 1) := by decide +kernel
theorem dX6_twin_124 : decode cX6_twin 124 = .ok (.aload_n 0, 1) := by decide +kernel
theorem dX6_twin_125 : decode cX6_twin 125 = .ok (.getfield 108, 3) := by decide +kernel
theorem dX6_twin_128 : decode cX6_twin 128 = .ok (.iload_n 2, 1) := by decide +kernel
theorem dX6_twin_129 : decode cX6_twin 129 = .ok (.laload, 1) := by decide +kernel
theorem dX6_twin_130 : decode cX6_twin 130 = .ok (.lastore, 1) := by decide +kernel
theorem dX6_twin_131 : decode cX6_twin 131 = .ok (.aload_n 0, 1) := by decide +kernel
theorem dX6_twin_132 : decode cX6_twin 132 = .ok (.getfield 111, 3) := by decide +kernel
theorem dX6_twin_135 : decode cX6_twin 135 = .ok (.iload_n 3, 1) := by decide +kernel
theorem dX6_twin_136 : decode cX6_twin 136 = .ok (.aload_n 0, 1) := by decide +kernel
theorem dX6_twin_137 : decode cX6_twin 137 = .ok (.getfield 111, 3) := by decide +kernel
theorem dX6_twin_140 : decode cX6_twin 140 = .ok (.iload_n 2, 1) := by decide +kernel
theorem dX6_twin_141 : decode cX6_twin 141 = .ok (.laload, 1) := by decide +kernel
theorem dX6_twin_142 : decode cX6_twin 142 = .ok (.lastore, 1) := by decide +kernel
theorem dX6_twin_143 : decode cX6_twin 143 = .ok (.aload_n 0, 1) := by decide +kernel
theorem dX6_twin_144 : decode cX6_twin 144 = .ok (.getfield 84, 3) := by decide +kernel
theorem dX6_twin_147 : decode cX6_twin 147 = .ok (.iload_n 2, 1) := by decide +kernel
theorem dX6_twin_148 : decode cX6_twin 148 = .ok (.iaload, 1) := by decide +kernel
theorem dX6_twin_149 : decode cX6_twin 149 = .ok (.iconst 3, 1) := by decide +kernel
theorem dX6_twin_150 : decode cX6_twin 150 = .ok (.if_icmp .ne 216, 3) := by decide +kernel
theorem dX6_twin_153 : decode cX6_twin 153 = .ok (.iconst 0, 1) := by decide +kernel
theorem dX6_twin_154 : decode cX6_twin 154 = .ok (.istore 4, 2) := by decide +kernel
theorem dX6_twin_156 : decode cX6_twin 156 = .ok (.iload 4, 2) := by decide +kernel
theorem dX6_twin_158 : decode cX6_twin 158 = .ok (.iconst 4, 1) := by decide +kernel
theorem dX6_twin_159 : decode cX6_twin 159 = .ok (.if_icmp .ge 31, 3) := by decide +kernel
theorem dX6_twin_162 : decode cX6_twin 162 = .ok (.aload_n 0, 1) := by decide +kernel
theorem dX6_twin_163 : decode cX6_twin 163 = .ok (.getfield 114, 3) := by decide +kernel
theorem dX6_twin_166 : decode cX6_twin 166 = .ok (.iconst 4, 1) := by decide +kernel
theorem dX6_twin_167 : decode cX6_twin 167 = .ok (.iload_n 3, 1) := by decide +kernel
theorem dX6_twin_168 : decode cX6_twin 168 = .ok (.imul, 1) := by decide +kernel
theorem dX6_twin_169 : decode cX6_twin 169 = .ok (.iload 4, 2) := by decide +kernel
theorem dX6_twin_171 : decode cX6_twin 171 = .ok (.iadd, 1) := by decide +kernel
theorem dX6_twin_172 : decode cX6_twin 172 = .ok (.aload_n 0, 1) := by decide +kernel
theorem dX6_twin_173 : decode cX6_twin 173 = .ok (.getfield 114, 3) := by decide +kernel
theorem dX6_twin_176 : decode cX6_twin 176 = .ok (.iconst 4, 1) := by decide +kernel
theorem dX6_twin_177 : decode cX6_twin 177 = .ok (.iload_n 2, 1) := by decide +kernel
theorem dX6_twin_178 : decode cX6_twin 178 = .ok (.imul, 1) := by decide +kernel
theorem dX6_twin_179 : decode cX6_twin 179 = .ok (.iload 4, 2) := by decide +kernel
theorem dX6_twin_181 : decode cX6_twin 181 = .ok (.iadd, 1) := by decide +kernel
theorem dX6_twin_182 : decode cX6_twin 182 = .ok (.laload, 1) := by decide +kernel
theorem dX6_twin_183 : decode cX6_twin 183 = .ok (.lastore, 1) := by decide +kernel
theorem dX6_twin_184 : decode cX6_twin 184 = .ok (.iinc 4 1, 3) := by decide +kernel
theorem dX6_twin_187 : decode cX6_twin 187 = .ok (.goto (-31), 3) := by decide +kernel
theorem dX6_twin_190 : decode cX6_twin 190 = .ok (.iconst 0, 1) := by decide +kernel
theorem dX6_twin_191 : decode cX6_twin 191 = .ok (.istore 4, 2) := by decide +kernel
theorem dX6_twin_193 : decode cX6_twin 193 = .ok (.iload 4, 2) := by decide +kernel
theorem dX6_twin_195 : decode cX6_twin 195 = .ok (.bipush 12, 2) := by decide +kernel
theorem dX6_twin_197 : decode cX6_twin 197 = .ok (.if_icmp .ge 105, 3) := by decide +kernel
theorem dX6_twin_200 : decode cX6_twin 200 = .ok (.aload_n 0, 1) := by decide +kernel
theorem dX6_twin_201 : decode cX6_twin 201 = .ok (.getfield 118, 3) := by decide +kernel
theorem dX6_twin_204 : decode cX6_twin 204 = .ok (.bipush 12, 2) := by decide +kernel
theorem dX6_twin_206 : decode cX6_twin 206 = .ok (.iload_n 3, 1) := by decide +kernel
theorem dX6_twin_207 : decode cX6_twin 207 = .ok (.imul, 1) := by decide +kernel
theorem dX6_twin_208 : decode cX6_twin 208 = .ok (.iload 4, 2) := by decide +kernel
theorem dX6_twin_210 : decode cX6_twin 210 = .ok (.iadd, 1) := by decide +kernel
theorem dX6_twin_211 : decode cX6_twin 211 = .ok (.aload_n 0, 1) := by decide +kernel
theorem dX6_twin_212 : decode cX6_twin 212 = .ok (.getfield 118, 3) := by decide +kernel
theorem dX6_twin_215 : decode cX6_twin 215 = .ok (.bipush 12, 2) := by decide +kernel
theorem dX6_twin_217 : decode cX6_twin 217 = .ok (.iload_n 2, 1) := by decide +kernel
theorem dX6_twin_218 : decode cX6_twin 218 = .ok (.imul, 1) := by decide +kernel
theorem dX6_twin_219 : decode cX6_twin 219 = .ok (.iload 4, 2) := by decide +kernel
theorem dX6_twin_221 : decode cX6_twin 221 = .ok (.iadd, 1) := by decide +kernel
theorem dX6_twin_222 : decode cX6_twin 222 = .ok (.iaload, 1) := by decide +kernel
theorem dX6_twin_223 : decode cX6_twin 223 = .ok (.iastore, 1) := by decide +kernel
theorem dX6_twin_224 : decode cX6_twin 224 = .ok (.aload_n 0, 1) := by decide +kernel
theorem dX6_twin_225 : decode cX6_twin 225 = .ok (.getfield 121, 3) := by decide +kernel
theorem dX6_twin_228 : decode cX6_twin 228 = .ok (.bipush 12, 2) := by decide +kernel
theorem dX6_twin_230 : decode cX6_twin 230 = .ok (.iload_n 3, 1) := by decide +kernel
theorem dX6_twin_231 : decode cX6_twin 231 = .ok (.imul, 1) := by decide +kernel
theorem dX6_twin_232 : decode cX6_twin 232 = .ok (.iload 4, 2) := by decide +kernel
theorem dX6_twin_234 : decode cX6_twin 234 = .ok (.iadd, 1) := by decide +kernel
theorem dX6_twin_235 : decode cX6_twin 235 = .ok (.aload_n 0, 1) := by decide +kernel
theorem dX6_twin_236 : decode cX6_twin 236 = .ok (.getfield 121, 3) := by decide +kernel
theorem dX6_twin_239 : decode cX6_twin 239 = .ok (.bipush 12, 2) := by decide +kernel
theorem dX6_twin_241 : decode cX6_twin 241 = .ok (.iload_n 2, 1) := by decide +kernel
theorem dX6_twin_242 : decode cX6_twin 242 = .ok (.imul, 1) := by decide +kernel
theorem dX6_twin_243 : decode cX6_twin 243 = .ok (.iload 4, 2) := by decide +kernel
theorem dX6_twin_245 : decode cX6_twin 245 = .ok (.iadd, 1) := by decide +kernel
theorem dX6_twin_246 : decode cX6_twin 246 = .ok (.iaload, 1) := by decide +kernel
theorem dX6_twin_247 : decode cX6_twin 247 = .ok (.iastore, 1) := by decide +kernel
theorem dX6_twin_248 : decode cX6_twin 248 = .ok (.aload_n 0, 1) := by decide +kernel
theorem dX6_twin_249 : decode cX6_twin 249 = .ok (.getfield 124, 3) := by decide +kernel
theorem dX6_twin_252 : decode cX6_twin 252 = .ok (.bipush 12, 2) := by decide +kernel
theorem dX6_twin_254 : decode cX6_twin 254 = .ok (.iload_n 3, 1) := by decide +kernel
theorem dX6_twin_255 : decode cX6_twin 255 = .ok (.imul, 1) := by decide +kernel
theorem dX6_twin_256 : decode cX6_twin 256 = .ok (.iload 4, 2) := by decide +kernel
theorem dX6_twin_258 : decode cX6_twin 258 = .ok (.iadd, 1) := by decide +kernel
theorem dX6_twin_259 : decode cX6_twin 259 = .ok (.aload_n 0, 1) := by decide +kernel
theorem dX6_twin_260 : decode cX6_twin 260 = .ok (.getfield 124, 3) := by decide +kernel
theorem dX6_twin_263 : decode cX6_twin 263 = .ok (.bipush 12, 2) := by decide +kernel
theorem dX6_twin_265 : decode cX6_twin 265 = .ok (.iload_n 2, 1) := by decide +kernel
theorem dX6_twin_266 : decode cX6_twin 266 = .ok (.imul, 1) := by decide +kernel
theorem dX6_twin_267 : decode cX6_twin 267 = .ok (.iload 4, 2) := by decide +kernel
theorem dX6_twin_269 : decode cX6_twin 269 = .ok (.iadd, 1) := by decide +kernel
theorem dX6_twin_270 : decode cX6_twin 270 = .ok (.iaload, 1) := by decide +kernel
theorem dX6_twin_271 : decode cX6_twin 271 = .ok (.iastore, 1) := by decide +kernel
theorem dX6_twin_272 : decode cX6_twin 272 = .ok (.aload_n 0, 1) := by decide +kernel
theorem dX6_twin_273 : decode cX6_twin 273 = .ok (.getfield 127, 3) := by decide +kernel
theorem dX6_twin_276 : decode cX6_twin 276 = .ok (.bipush 12, 2) := by decide +kernel
theorem dX6_twin_278 : decode cX6_twin 278 = .ok (.iload_n 3, 1) := by decide +kernel
theorem dX6_twin_279 : decode cX6_twin 279 = .ok (.imul, 1) := by decide +kernel
theorem dX6_twin_280 : decode cX6_twin 280 = .ok (.iload 4, 2) := by decide +kernel
theorem dX6_twin_282 : decode cX6_twin 282 = .ok (.iadd, 1) := by decide +kernel
theorem dX6_twin_283 : decode cX6_twin 283 = .ok (.aload_n 0, 1) := by decide +kernel
theorem dX6_twin_284 : decode cX6_twin 284 = .ok (.getfield 127, 3) := by decide +kernel
theorem dX6_twin_287 : decode cX6_twin 287 = .ok (.bipush 12, 2) := by decide +kernel
theorem dX6_twin_289 : decode cX6_twin 289 = .ok (.iload_n 2, 1) := by decide +kernel
theorem dX6_twin_290 : decode cX6_twin 290 = .ok (.imul, 1) := by decide +kernel
theorem dX6_twin_291 : decode cX6_twin 291 = .ok (.iload 4, 2) := by decide +kernel
theorem dX6_twin_293 : decode cX6_twin 293 = .ok (.iadd, 1) := by decide +kernel
theorem dX6_twin_294 : decode cX6_twin 294 = .ok (.laload, 1) := by decide +kernel
theorem dX6_twin_295 : decode cX6_twin 295 = .ok (.lastore, 1) := by decide +kernel
theorem dX6_twin_296 : decode cX6_twin 296 = .ok (.iinc 4 1, 3) := by decide +kernel
theorem dX6_twin_299 : decode cX6_twin 299 = .ok (.goto (-106), 3) := by decide +kernel
theorem dX6_twin_302 : decode cX6_twin 302 = .ok (.iconst 0, 1) := by decide +kernel
theorem dX6_twin_303 : decode cX6_twin 303 = .ok (.istore 4, 2) := by decide +kernel
theorem dX6_twin_305 : decode cX6_twin 305 = .ok (.iload 4, 2) := by decide +kernel
theorem dX6_twin_307 : decode cX6_twin 307 = .ok (.bipush 6, 2) := by decide +kernel
theorem dX6_twin_309 : decode cX6_twin 309 = .ok (.if_icmp .ge 57, 3) := by decide +kernel
theorem dX6_twin_312 : decode cX6_twin 312 = .ok (.aload_n 0, 1) := by decide +kernel
theorem dX6_twin_313 : decode cX6_twin 313 = .ok (.getfield 130, 3) := by decide +kernel
theorem dX6_twin_316 : decode cX6_twin 316 = .ok (.bipush 6, 2) := by decide +kernel
theorem dX6_twin_318 : decode cX6_twin 318 = .ok (.iload_n 3, 1) := by decide +kernel
theorem dX6_twin_319 : decode cX6_twin 319 = .ok (.imul, 1) := by decide +kernel
theorem dX6_twin_320 : decode cX6_twin 320 = .ok (.iload 4, 2) := by decide +kernel
theorem dX6_twin_322 : decode cX6_twin 322 = .ok (.iadd, 1) := by decide +kernel
theorem dX6_twin_323 : decode cX6_twin 323 = .ok (.aload_n 0, 1) := by decide +kernel
theorem dX6_twin_324 : decode cX6_twin 324 = .ok (.getfield 130, 3) := by decide +kernel
theorem dX6_twin_327 : decode cX6_twin 327 = .ok (.bipush 6, 2) := by decide +kernel
theorem dX6_twin_329 : decode cX6_twin 329 = .ok (.iload_n 2, 1) := by decide +kernel
theorem dX6_twin_330 : decode cX6_twin 330 = .ok (.imul, 1) := by decide +kernel
theorem dX6_twin_331 : decode cX6_twin 331 = .ok (.iload 4, 2) := by decide +kernel
theorem dX6_twin_333 : decode cX6_twin 333 = .ok (.iadd, 1) := by decide +kernel
theorem dX6_twin_334 : decode cX6_twin 334 = .ok (.iaload, 1) := by decide +kernel
theorem dX6_twin_335 : decode cX6_twin 335 = .ok (.iastore, 1) := by decide +kernel
theorem dX6_twin_336 : decode cX6_twin 336 = .ok (.aload_n 0, 1) := by decide +kernel
theorem dX6_twin_337 : decode cX6_twin 337 = .ok (.getfield 133, 3) := by decide +kernel
theorem dX6_twin_340 : decode cX6_twin 340 = .ok (.bipush 6, 2) := by decide +kernel
theorem dX6_twin_342 : decode cX6_twin 342 = .ok (.iload_n 3, 1) := by decide +kernel
theorem dX6_twin_343 : decode cX6_twin 343 = .ok (.imul, 1) := by decide +kernel
theorem dX6_twin_344 : decode cX6_twin 344 = .ok (.iload 4, 2) := by decide +kernel
theorem dX6_twin_346 : decode cX6_twin 346 = .ok (.iadd, 1) := by decide +kernel
theorem dX6_twin_347 : decode cX6_twin 347 = .ok (.aload_n 0, 1) := by decide +kernel
theorem dX6_twin_348 : decode cX6_twin 348 = .ok (.getfield 133, 3) := by decide +kernel
theorem dX6_twin_351 : decode cX6_twin 351 = .ok (.bipush 6, 2) := by decide +kernel
theorem dX6_twin_353 : decode cX6_twin 353 = .ok (.iload_n 2, 1) := by decide +kernel
theorem dX6_twin_354 : decode cX6_twin 354 = .ok (.imul, 1) := by decide +kernel
theorem dX6_twin_355 : decode cX6_twin 355 = .ok (.iload 4, 2) := by decide +kernel
theorem dX6_twin_357 : decode cX6_twin 357 = .ok (.iadd, 1) := by decide +kernel
theorem dX6_twin_358 : decode cX6_twin 358 = .ok (.iaload, 1) := by decide +kernel
theorem dX6_twin_359 : decode cX6_twin 359 = .ok (.iastore, 1) := by decide +kernel
theorem dX6_twin_360 : decode cX6_twin 360 = .ok (.iinc 4 1, 3) := by decide +kernel
theorem dX6_twin_363 : decode cX6_twin 363 = .ok (.goto (-58), 3) := by decide +kernel
theorem dX6_twin_366 : decode cX6_twin 366 = .ok (.aload_n 0, 1) := by decide +kernel
theorem dX6_twin_367 : decode cX6_twin 367 = .ok (.iload_n 3, 1) := by decide +kernel
theorem dX6_twin_368 : decode cX6_twin 368 = .ok (.invokevirtual 168, 3) := by decide +kernel
theorem dX6_twin_371 : decode cX6_twin 371 = .ok (.aload_n 0, 1) := by decide +kernel
theorem dX6_twin_372 : decode cX6_twin 372 = .ok (.getfield 84, 3) := by decide +kernel
theorem dX6_twin_375 : decode cX6_twin 375 = .ok (.iload_n 2, 1) := by decide +kernel
theorem dX6_twin_376 : decode cX6_twin 376 = .ok (.iaload, 1) := by decide +kernel
theorem dX6_twin_377 : decode cX6_twin 377 = .ok (.ireturn, 1) := by decide +kernel
theorem dX6_copy_0 : decode cX6_copy 0 = .ok (.iconst 0, 1) := by decide +kernel
theorem dX6_copy_1 : decode cX6_copy 1 = .ok (.istore_n 3, 1) := by decide +kernel
theorem dX6_copy_2 : decode cX6_copy 2 = .ok (.iload_n 3, 1) := by decide +kernel
theorem dX6_copy_3 : decode cX6_copy 3 = .ok (.bipush 8, 2) := by decide +kernel
theorem dX6_copy_5 : decode cX6_copy 5 = .ok (.if_icmp .ge 308, 3) := by decide +kernel
theorem dX6_copy_8 : decode cX6_copy 8 = .ok (.bipush 8, 2) := by decide +kernel
theorem dX6_copy_10 : decode cX6_copy 10 = .ok (.iload_n 1, 1) := by decide +kernel
theorem dX6_copy_11 : decode cX6_copy 11 = .ok (.imul, 1) := by decide +kernel
theorem dX6_copy_12 : decode cX6_copy 12 = .ok (.iload_n 3, 1) := by decide +kernel
theorem dX6_copy_13 : decode cX6_copy 13 = .ok (.iadd, 1) := by decide +kernel
theorem dX6_copy_14 : decode cX6_copy 14 = .ok (.istore 4, 2) := by decide +kernel
theorem dX6_copy_16 : decode cX6_copy 16 = .ok (.bipush 8, 2) := by decide +kernel
theorem dX6_copy_18 : decode cX6_copy 18 = .ok (.iload_n 2, 1) := by decide +kernel
theorem dX6_copy_19 : decode cX6_copy 19 = .ok (.imul, 1) := by decide +kernel
theorem dX6_copy_20 : decode cX6_copy 20 = .ok (.iload_n 3, 1) := by decide +kernel
theorem dX6_copy_21 : decode cX6_copy 21 = .ok (.iadd, 1) := by decide +kernel
theorem dX6_copy_22 : decode cX6_copy 22 = .ok (.istore 5, 2) := by decide +kernel
theorem dX6_copy_24 : decode cX6_copy 24 = .ok (.aload_n 0, 1) := by decide +kernel
theorem dX6_copy_25 : decode cX6_copy 25 = .ok (.getfield 41, 3) := by decide +kernel
theorem dX6_copy_28 : decode cX6_copy 28 = .ok (.iload 5, 2) := by decide +kernel
theorem dX6_copy_30 : decode cX6_copy 30 = .ok (.aload_n 0, 1) := by decide +kernel
theorem dX6_copy_31 : decode cX6_copy 31 = .ok (.getfield 41, 3) := by decide +kernel
theorem dX6_copy_34 : decode cX6_copy 34 = .ok (.iload 4, 2) := by decide +kernel
theorem dX6_copy_36 : decode cX6_copy 36 = .ok (.iaload, 1) := by decide +kernel
theorem dX6_copy_37 : decode cX6_copy 37 = .ok (.iastore, 1) := by decide +kernel
theorem dX6_copy_38 : decode cX6_copy 38 = .ok (.aload_n 0, 1) := by decide +kernel
theorem dX6_copy_39 : decode cX6_copy 39 = .ok (.getfield 44, 3) := by decide +kernel
theorem dX6_copy_42 : decode cX6_copy 42 = .ok (.iload 5, 2) := by decide +kernel
theorem dX6_copy_44 : decode cX6_copy 44 = .ok (.aload_n 0, 1) := by decide +kernel
theorem dX6_copy_45 : decode cX6_copy 45 = .ok (.getfield 44, 3) := by decide +kernel
theorem dX6_copy_48 : decode cX6_copy 48 = .ok (.iload 4, 2) := by decide +kernel
theorem dX6_copy_50 : decode cX6_copy 50 = .ok (.iaload, 1) := by decide +kernel
theorem dX6_copy_51 : decode cX6_copy 51 = .ok (.iastore, 1) := by decide +kernel
theorem dX6_copy_52 : decode cX6_copy 52 = .ok (.aload_n 0, 1) := by decide +kernel
theorem dX6_copy_53 : decode cX6_copy 53 = .ok (.getfield 47, 3) := by decide +kernel
theorem dX6_copy_56 : decode cX6_copy 56 = .ok (.iload 5, 2) := by decide +kernel
theorem dX6_copy_58 : decode cX6_copy 58 = .ok (.aload_n 0, 1) := by decide +kernel
theorem dX6_copy_59 : decode cX6_copy 59 = .ok (.getfield 47, 3) := by decide +kernel
theorem dX6_copy_62 : decode cX6_copy 62 = .ok (.iload 4, 2) := by decide +kernel
theorem dX6_copy_64 : decode cX6_copy 64 = .ok (.iaload, 1) := by decide +kernel
theorem dX6_copy_65 : decode cX6_copy 65 = .ok (.iastore, 1) := by decide +kernel
theorem dX6_copy_66 : decode cX6_copy 66 = .ok (.aload_n 0, 1) := by decide +kernel
theorem dX6_copy_67 : decode cX6_copy 67 = .ok (.getfield 53, 3) := by decide +kernel
theorem dX6_copy_70 : decode cX6_copy 70 = .ok (.iload 5, 2) := by decide +kernel
theorem dX6_copy_72 : decode cX6_copy 72 = .ok (.aload_n 0, 1) := by decide +kernel
theorem dX6_copy_73 : decode cX6_copy 73 = .ok (.getfield 53, 3) := by decide +kernel
theorem dX6_copy_76 : decode cX6_copy 76 = .ok (.iload 4, 2) := by decide +kernel
theorem dX6_copy_78 : decode cX6_copy 78 = .ok (.iaload, 1) := by decide +kernel
theorem dX6_copy_79 : decode cX6_copy 79 = .ok (.iastore, 1) := by decide +kernel
theorem dX6_copy_80 : decode cX6_copy 80 = .ok (.iconst 0, 1) := by decide +kernel
theorem dX6_copy_81 : decode cX6_copy 81 = .ok (.istore 6, 2) := by decide +kernel
theorem dX6_copy_83 : decode cX6_copy 83 = .ok (.iload 6, 2) := by decide +kernel
theorem dX6_copy_85 : decode cX6_copy 85 = .ok (.iconst 4, 1) := by decide +kernel
theorem dX6_copy_86 : decode cX6_copy 86 = .ok (.if_icmp .ge 33, 3) := by decide +kernel
theorem dX6_copy_89 : decode cX6_copy 89 = .ok (.aload_n 0, 1) := by decide +kernel
theorem dX6_copy_90 : decode cX6_copy 90 = .ok (.getfield 50, 3) := by decide +kernel
theorem dX6_copy_93 : decode cX6_copy 93 = .ok (.iconst 4, 1) := by decide +kernel
theorem dX6_copy_94 : decode cX6_copy 94 = .ok (.iload 5, 2) := by decide +kernel
theorem dX6_copy_96 : decode cX6_copy 96 = .ok (.imul, 1) := by decide +kernel
theorem dX6_copy_97 : decode cX6_copy 97 = .ok (.iload 6, 2) := by decide +kernel
theorem dX6_copy_99 : decode cX6_copy 99 = .ok (.iadd, 1) := by decide +kernel
theorem dX6_copy_100 : decode cX6_copy 100 = .ok (.aload_n 0, 1) := by decide +kernel
theorem dX6_copy_101 : decode cX6_copy 101 = .ok (.getfield 50, 3) := by decide +kernel
theorem dX6_copy_104 : decode cX6_copy 104 = .ok (.iconst 4, 1) := by decide +kernel
theorem dX6_copy_105 : decode cX6_copy 105 = .ok (.iload 4, 2) := by decide +kernel
theorem dX6_copy_107 : decode cX6_copy 107 = .ok (.imul, 1) := by decide +kernel
theorem dX6_copy_108 : decode cX6_copy 108 = .ok (.iload 6, 2) := by decide +kernel
theorem dX6_copy_110 : decode cX6_copy 110 = .ok (.iadd, 1) := by decide +kernel
theorem dX6_copy_111 : decode cX6_copy 111 = .ok (.laload, 1) := by decide +kernel
theorem dX6_copy_112 : decode cX6_copy 112 = .ok (.lastore, 1) := by decide +kernel
theorem dX6_copy_113 : decode cX6_copy 113 = .ok (.iinc 6 1, 3) := by decide +kernel
theorem dX6_copy_116 : decode cX6_copy 116 = .ok (.goto (-33), 3) := by decide +kernel
theorem dX6_copy_119 : decode cX6_copy 119 = .ok (.iconst 0, 1) := by decide +kernel
theorem dX6_copy_120 : decode cX6_copy 120 = .ok (.istore 6, 2) := by decide +kernel
theorem dX6_copy_122 : decode cX6_copy 122 = .ok (.iload 6, 2) := by decide +kernel
theorem dX6_copy_124 : decode cX6_copy 124 = .ok (.bipush 12, 2) := by decide +kernel
theorem dX6_copy_126 : decode cX6_copy 126 = .ok (.if_icmp .ge 113, 3) := by decide +kernel
theorem dX6_copy_129 : decode cX6_copy 129 = .ok (.aload_n 0, 1) := by decide +kernel
theorem dX6_copy_130 : decode cX6_copy 130 = .ok (.getfield 56, 3) := by decide +kernel
theorem dX6_copy_133 : decode cX6_copy 133 = .ok (.bipush 12, 2) := by decide +kernel
theorem dX6_copy_135 : decode cX6_copy 135 = .ok (.iload 5, 2) := by decide +kernel
theorem dX6_copy_137 : decode cX6_copy 137 = .ok (.imul, 1) := by decide +kernel
theorem dX6_copy_138 : decode cX6_copy 138 = .ok (.iload 6, 2) := by decide +kernel
theorem dX6_copy_140 : decode cX6_copy 140 = .ok (.iadd, 1) := by decide +kernel
theorem dX6_copy_141 : decode cX6_copy 141 = .ok (.aload_n 0, 1) := by decide +kernel
theorem dX6_copy_142 : decode cX6_copy 142 = .ok (.getfield 56, 3) := by decide +kernel
theorem dX6_copy_145 : decode cX6_copy 145 = .ok (.bipush 12, 2) := by decide +kernel
theorem dX6_copy_147 : decode cX6_copy 147 = .ok (.iload 4, 2) := by decide +kernel
theorem dX6_copy_149 : decode cX6_copy 149 = .ok (.imul, 1) := by decide +kernel
theorem dX6_copy_150 : decode cX6_copy 150 = .ok (.iload 6, 2) := by decide +kernel
theorem dX6_copy_152 : decode cX6_copy 152 = .ok (.iadd, 1) := by decide +kernel
theorem dX6_copy_153 : decode cX6_copy 153 = .ok (.iaload, 1) := by decide +kernel
theorem dX6_copy_154 : decode cX6_copy 154 = .ok (.iastore, 1) := by decide +kernel
theorem dX6_copy_155 : decode cX6_copy 155 = .ok (.aload_n 0, 1) := by decide +kernel
theorem dX6_copy_156 : decode cX6_copy 156 = .ok (.getfield 59, 3) := by decide +kernel
theorem dX6_copy_159 : decode cX6_copy 159 = .ok (.bipush 12, 2) := by decide +kernel
theorem dX6_copy_161 : decode cX6_copy 161 = .ok (.iload 5, 2) := by decide +kernel
theorem dX6_copy_163 : decode cX6_copy 163 = .ok (.imul, 1) := by decide +kernel
theorem dX6_copy_164 : decode cX6_copy 164 = .ok (.iload 6, 2) := by decide +kernel
theorem dX6_copy_166 : decode cX6_copy 166 = .ok (.iadd, 1) := by decide +kernel
theorem dX6_copy_167 : decode cX6_copy 167 = .ok (.aload_n 0, 1) := by decide +kernel
theorem dX6_copy_168 : decode cX6_copy 168 = .ok (.getfield 59, 3) := by decide +kernel
theorem dX6_copy_171 : decode cX6_copy 171 = .ok (.bipush 12, 2) := by decide +kernel
theorem dX6_copy_173 : decode cX6_copy 173 = .ok (.iload 4, 2) := by decide +kernel
theorem dX6_copy_175 : decode cX6_copy 175 = .ok (.imul, 1) := by decide +kernel
theorem dX6_copy_176 : decode cX6_copy 176 = .ok (.iload 6, 2) := by decide +kernel
theorem dX6_copy_178 : decode cX6_copy 178 = .ok (.iadd, 1) := by decide +kernel
theorem dX6_copy_179 : decode cX6_copy 179 = .ok (.iaload, 1) := by decide +kernel
theorem dX6_copy_180 : decode cX6_copy 180 = .ok (.iastore, 1) := by decide +kernel
theorem dX6_copy_181 : decode cX6_copy 181 = .ok (.aload_n 0, 1) := by decide +kernel
theorem dX6_copy_182 : decode cX6_copy 182 = .ok (.getfield 62, 3) := by decide +kernel
theorem dX6_copy_185 : decode cX6_copy 185 = .ok (.bipush 12, 2) := by decide +kernel
theorem dX6_copy_187 : decode cX6_copy 187 = .ok (.iload 5, 2) := by decide +kernel
theorem dX6_copy_189 : decode cX6_copy 189 = .ok (.imul, 1) := by decide +kernel
theorem dX6_copy_190 : decode cX6_copy 190 = .ok (.iload 6, 2) := by decide +kernel
theorem dX6_copy_192 : decode cX6_copy 192 = .ok (.iadd, 1) := by decide +kernel
theorem dX6_copy_193 : decode cX6_copy 193 = .ok (.aload_n 0, 1) := by decide +kernel
theorem dX6_copy_194 : decode cX6_copy 194 = .ok (.getfield 62, 3) := by decide +kernel
theorem dX6_copy_197 : decode cX6_copy 197 = .ok (.bipush 12, 2) := by decide +kernel
theorem dX6_copy_199 : decode cX6_copy 199 = .ok (.iload 4, 2) := by decide +kernel
theorem dX6_copy_201 : decode cX6_copy 201 = .ok (.imul, 1) := by decide +kernel
theorem dX6_copy_202 : decode cX6_copy 202 = .ok (.iload 6, 2) := by decide +kernel
theorem dX6_copy_204 : decode cX6_copy 204 = .ok (.iadd, 1) := by decide +kernel
theorem dX6_copy_205 : decode cX6_copy 205 = .ok (.iaload, 1) := by decide +kernel
theorem dX6_copy_206 : decode cX6_copy 206 = .ok (.iastore, 1) := by decide +kernel
theorem dX6_copy_207 : decode cX6_copy 207 = .ok (.aload_n 0, 1) := by decide +kernel
theorem dX6_copy_208 : decode cX6_copy 208 = .ok (.getfield 65, 3) := by decide +kernel
theorem dX6_copy_211 : decode cX6_copy 211 = .ok (.bipush 12, 2) := by decide +kernel
theorem dX6_copy_213 : decode cX6_copy 213 = .ok (.iload 5, 2) := by decide +kernel
theorem dX6_copy_215 : decode cX6_copy 215 = .ok (.imul, 1) := by decide +kernel
theorem dX6_copy_216 : decode cX6_copy 216 = .ok (.iload 6, 2) := by decide +kernel
theorem dX6_copy_218 : decode cX6_copy 218 = .ok (.iadd, 1) := by decide +kernel
theorem dX6_copy_219 : decode cX6_copy 219 = .ok (.aload_n 0, 1) := by decide +kernel
theorem dX6_copy_220 : decode cX6_copy 220 = .ok (.getfield 65, 3) := by decide +kernel
theorem dX6_copy_223 : decode cX6_copy 223 = .ok (.bipush 12, 2) := by decide +kernel
theorem dX6_copy_225 : decode cX6_copy 225 = .ok (.iload 4, 2) := by decide +kernel
theorem dX6_copy_227 : decode cX6_copy 227 = .ok (.imul, 1) := by decide +kernel
theorem dX6_copy_228 : decode cX6_copy 228 = .ok (.iload 6, 2) := by decide +kernel
theorem dX6_copy_230 : decode cX6_copy 230 = .ok (.iadd, 1) := by decide +kernel
theorem dX6_copy_231 : decode cX6_copy 231 = .ok (.laload, 1) := by decide +kernel
theorem dX6_copy_232 : decode cX6_copy 232 = .ok (.lastore, 1) := by decide +kernel
theorem dX6_copy_233 : decode cX6_copy 233 = .ok (.iinc 6 1, 3) := by decide +kernel
theorem dX6_copy_236 : decode cX6_copy 236 = .ok (.goto (-114), 3) := by decide +kernel
theorem dX6_copy_239 : decode cX6_copy 239 = .ok (.iconst 0, 1) := by decide +kernel
theorem dX6_copy_240 : decode cX6_copy 240 = .ok (.istore 6, 2) := by decide +kernel
theorem dX6_copy_242 : decode cX6_copy 242 = .ok (.iload 6, 2) := by decide +kernel
theorem dX6_copy_244 : decode cX6_copy 244 = .ok (.bipush 6, 2) := by decide +kernel
theorem dX6_copy_246 : decode cX6_copy 246 = .ok (.if_icmp .ge 61, 3) := by decide +kernel
theorem dX6_copy_249 : decode cX6_copy 249 = .ok (.aload_n 0, 1) := by decide +kernel
theorem dX6_copy_250 : decode cX6_copy 250 = .ok (.getfield 68, 3) := by decide +kernel
theorem dX6_copy_253 : decode cX6_copy 253 = .ok (.bipush 6, 2) := by decide +kernel
theorem dX6_copy_255 : decode cX6_copy 255 = .ok (.iload 5, 2) := by decide +kernel
theorem dX6_copy_257 : decode cX6_copy 257 = .ok (.imul, 1) := by decide +kernel
theorem dX6_copy_258 : decode cX6_copy 258 = .ok (.iload 6, 2) := by decide +kernel
theorem dX6_copy_260 : decode cX6_copy 260 = .ok (.iadd, 1) := by decide +kernel
theorem dX6_copy_261 : decode cX6_copy 261 = .ok (.aload_n 0, 1) := by decide +kernel
theorem dX6_copy_262 : decode cX6_copy 262 = .ok (.getfield 68, 3) := by decide +kernel
theorem dX6_copy_265 : decode cX6_copy 265 = .ok (.bipush 6, 2) := by decide +kernel
theorem dX6_copy_267 : decode cX6_copy 267 = .ok (.iload 4, 2) := by decide +kernel
theorem dX6_copy_269 : decode cX6_copy 269 = .ok (.imul, 1) := by decide +kernel
theorem dX6_copy_270 : decode cX6_copy 270 = .ok (.iload 6, 2) := by decide +kernel
theorem dX6_copy_272 : decode cX6_copy 272 = .ok (.iadd, 1) := by decide +kernel
theorem dX6_copy_273 : decode cX6_copy 273 = .ok (.iaload, 1) := by decide +kernel
theorem dX6_copy_274 : decode cX6_copy 274 = .ok (.iastore, 1) := by decide +kernel
theorem dX6_copy_275 : decode cX6_copy 275 = .ok (.aload_n 0, 1) := by decide +kernel
theorem dX6_copy_276 : decode cX6_copy 276 = .ok (.getfield 71, 3) := by decide +kernel
theorem dX6_copy_279 : decode cX6_copy 279 = .ok (.bipush 6, 2) := by decide +kernel
theorem dX6_copy_281 : decode cX6_copy 281 = .ok (.iload 5, 2) := by decide +kernel
theorem dX6_copy_283 : decode cX6_copy 283 = .ok (.imul, 1) := by decide +kernel
theorem dX6_copy_284 : decode cX6_copy 284 = .ok (.iload 6, 2) := by decide +kernel
theorem dX6_copy_286 : decode cX6_copy 286 = .ok (.iadd, 1) := by decide +kernel
theorem dX6_copy_287 : decode cX6_copy 287 = .ok (.aload_n 0, 1) := by decide +kernel
theorem dX6_copy_288 : decode cX6_copy 288 = .ok (.getfield 71, 3) := by decide +kernel
theorem dX6_copy_291 : decode cX6_copy 291 = .ok (.bipush 6, 2) := by decide +kernel
theorem dX6_copy_293 : decode cX6_copy 293 = .ok (.iload 4, 2) := by decide +kernel
theorem dX6_copy_295 : decode cX6_copy 295 = .ok (.imul, 1) := by decide +kernel
theorem dX6_copy_296 : decode cX6_copy 296 = .ok (.iload 6, 2) := by decide +kernel
theorem dX6_copy_298 : decode cX6_copy 298 = .ok (.iadd, 1) := by decide +kernel
theorem dX6_copy_299 : decode cX6_copy 299 = .ok (.iaload, 1) := by decide +kernel
theorem dX6_copy_300 : decode cX6_copy 300 = .ok (.iastore, 1) := by decide +kernel
theorem dX6_copy_301 : decode cX6_copy 301 = .ok (.iinc 6 1, 3) := by decide +kernel
theorem dX6_copy_304 : decode cX6_copy 304 = .ok (.goto (-62), 3) := by decide +kernel
theorem dX6_copy_307 : decode cX6_copy 307 = .ok (.iinc 3 1, 3) := by decide +kernel
theorem dX6_copy_310 : decode cX6_copy 310 = .ok (.goto (-308), 3) := by decide +kernel
theorem dX6_copy_313 : decode cX6_copy 313 = .ok (.return_, 1) := by decide +kernel
theorem dX6_sync_0 : decode cX6_sync 0 = .ok (.aload_n 0, 1) := by decide +kernel
theorem dX6_sync_1 : decode cX6_sync 1 = .ok (.iload_n 1, 1) := by decide +kernel
theorem dX6_sync_2 : decode cX6_sync 2 = .ok (.invokevirtual 201, 3) := by decide +kernel
theorem dX6_sync_5 : decode cX6_sync 5 = .ok (.ifCond .ne 5, 3) := by decide +kernel
theorem dX6_sync_8 : decode cX6_sync 8 = .ok (.iconst (-1), 1) := by decide +kernel
theorem dX6_sync_9 : decode cX6_sync 9 = .ok (.ireturn, 1) := by decide +kernel
theorem dX6_sync_10 : decode cX6_sync 10 = .ok (.aload_n 0, 1) := by decide +kernel
theorem dX6_sync_11 : decode cX6_sync 11 = .ok (.getfield 74, 3) := by decide +kernel
theorem dX6_sync_14 : decode cX6_sync 14 = .ok (.iload_n 1, 1) := by decide +kernel
theorem dX6_sync_15 : decode cX6_sync 15 = .ok (.baload, 1) := by decide +kernel
theorem dX6_sync_16 : decode cX6_sync 16 = .ok (.ifCond .ne 6, 3) := by decide +kernel
theorem dX6_sync_19 : decode cX6_sync 19 = .ok (.bipush (-3), 2) := by decide +kernel
theorem dX6_sync_21 : decode cX6_sync 21 = .ok (.ireturn, 1) := by decide +kernel
theorem dX6_sync_22 : decode cX6_sync 22 = .ok (.aload_n 0, 1) := by decide +kernel
theorem dX6_sync_23 : decode cX6_sync 23 = .ok (.iconst 2, 1) := by decide +kernel
theorem dX6_sync_24 : decode cX6_sync 24 = .ok (.iload_n 1, 1) := by decide +kernel
theorem dX6_sync_25 : decode cX6_sync 25 = .ok (.imul, 1) := by decide +kernel
theorem dX6_sync_26 : decode cX6_sync 26 = .ok (.iconst 2, 1) := by decide +kernel
theorem dX6_sync_27 : decode cX6_sync 27 = .ok (.iload_n 1, 1) := by decide +kernel
theorem dX6_sync_28 : decode cX6_sync 28 = .ok (.imul, 1) := by decide +kernel
theorem dX6_sync_29 : decode cX6_sync 29 = .ok (.iconst 1, 1) := by decide +kernel
theorem dX6_sync_30 : decode cX6_sync 30 = .ok (.iadd, 1) := by decide +kernel
theorem dX6_sync_31 : decode cX6_sync 31 = .ok (.invokevirtual 243, 3) := by decide +kernel
theorem dX6_sync_34 : decode cX6_sync 34 = .ok (.aload_n 0, 1) := by decide +kernel
theorem dX6_sync_35 : decode cX6_sync 35 = .ok (.getfield 78, 3) := by decide +kernel
theorem dX6_sync_38 : decode cX6_sync 38 = .ok (.iload_n 1, 1) := by decide +kernel
theorem dX6_sync_39 : decode cX6_sync 39 = .ok (.iconst 0, 1) := by decide +kernel
theorem dX6_sync_40 : decode cX6_sync 40 = .ok (.bastore, 1) := by decide +kernel
theorem dX6_sync_41 : decode cX6_sync 41 = .ok (.aload_n 0, 1) := by decide +kernel
theorem dX6_sync_42 : decode cX6_sync 42 = .ok (.getfield 142, 3) := by decide +kernel
theorem dX6_sync_45 : decode cX6_sync 45 = .ok (.iload_n 1, 1) := by decide +kernel
theorem dX6_sync_46 : decode cX6_sync 46 = .ok (.iaload, 1) := by decide +kernel
theorem dX6_sync_47 : decode cX6_sync 47 = .ok (.istore_n 2, 1) := by decide +kernel
theorem dX6_sync_48 : decode cX6_sync 48 = .ok (.aload_n 0, 1) := by decide +kernel
theorem dX6_sync_49 : decode cX6_sync 49 = .ok (.getfield 142, 3) := by decide +kernel
theorem dX6_sync_52 : decode cX6_sync 52 = .ok (.iload_n 1, 1) := by decide +kernel
theorem dX6_sync_53 : decode cX6_sync 53 = .ok (.iconst 0, 1) := by decide +kernel
theorem dX6_sync_54 : decode cX6_sync 54 = .ok (.iastore, 1) := by decide +kernel
theorem dX6_sync_55 : decode cX6_sync 55 = .ok (.iconst 0, 1) := by decide +kernel
theorem dX6_sync_56 : decode cX6_sync 56 = .ok (.istore_n 3, 1) := by decide +kernel
theorem dX6_sync_57 : decode cX6_sync 57 = .ok (.iload_n 3, 1) := by decide +kernel
theorem dX6_sync_58 : decode cX6_sync 58 = .ok (.iload_n 2, 1) := by decide +kernel
theorem dX6_sync_59 : decode cX6_sync 59 = .ok (.if_icmp .ge 25, 3) := by decide +kernel
theorem dX6_sync_62 : decode cX6_sync 62 = .ok (.aload_n 0, 1) := by decide +kernel
theorem dX6_sync_63 : decode cX6_sync 63 = .ok (.aload_n 0, 1) := by decide +kernel
theorem dX6_sync_64 : decode cX6_sync 64 = .ok (.getfield 139, 3) := by decide +kernel
theorem dX6_sync_67 : decode cX6_sync 67 = .ok (.sipush 4200, 3) := by decide +kernel
theorem dX6_sync_70 : decode cX6_sync 70 = .ok (.iload_n 1, 1) := by decide +kernel
theorem dX6_sync_71 : decode cX6_sync 71 = .ok (.imul, 1) := by decide +kernel
theorem dX6_sync_72 : decode cX6_sync 72 = .ok (.iload_n 3, 1) := by decide +kernel
theorem dX6_sync_73 : decode cX6_sync 73 = .ok (.iadd, 1) := by decide +kernel
theorem dX6_sync_74 : decode cX6_sync 74 = .ok (.iaload, 1) := by decide +kernel
theorem dX6_sync_75 : decode cX6_sync 75 = .ok (.invokevirtual 168, 3) := by decide +kernel
theorem dX6_sync_78 : decode cX6_sync 78 = .ok (.iinc 3 1, 3) := by decide +kernel
theorem dX6_sync_81 : decode cX6_sync 81 = .ok (.goto (-24), 3) := by decide +kernel
theorem dX6_sync_84 : decode cX6_sync 84 = .ok (.iload_n 2, 1) := by decide +kernel
theorem dX6_sync_85 : decode cX6_sync 85 = .ok (.ireturn, 1) := by decide +kernel
theorem dX6_crash_0 : decode cX6_crash 0 = .ok (.aload_n 0, 1) := by decide +kernel
theorem dX6_crash_1 : decode cX6_crash 1 = .ok (.iload_n 1, 1) := by decide +kernel
theorem dX6_crash_2 : decode cX6_crash 2 = .ok (.invokevirtual 201, 3) := by decide +kernel
theorem dX6_crash_5 : decode cX6_crash 5 = .ok (.ifCond .ne 5, 3) := by decide +kernel
theorem dX6_crash_8 : decode cX6_crash 8 = .ok (.iconst (-1), 1) := by decide +kernel
theorem dX6_crash_9 : decode cX6_crash 9 = .ok (.ireturn, 1) := by decide +kernel
theorem dX6_crash_10 : decode cX6_crash 10 = .ok (.aload_n 0, 1) := by decide +kernel
theorem dX6_crash_11 : decode cX6_crash 11 = .ok (.getfield 74, 3) := by decide +kernel
theorem dX6_crash_14 : decode cX6_crash 14 = .ok (.iload_n 1, 1) := by decide +kernel
theorem dX6_crash_15 : decode cX6_crash 15 = .ok (.baload, 1) := by decide +kernel
theorem dX6_crash_16 : decode cX6_crash 16 = .ok (.ifCond .ne 6, 3) := by decide +kernel
theorem dX6_crash_19 : decode cX6_crash 19 = .ok (.bipush (-3), 2) := by decide +kernel
theorem dX6_crash_21 : decode cX6_crash 21 = .ok (.ireturn, 1) := by decide +kernel
theorem dX6_crash_22 : decode cX6_crash 22 = .ok (.aload_n 0, 1) := by decide +kernel
theorem dX6_crash_23 : decode cX6_crash 23 = .ok (.getfield 74, 3) := by decide +kernel
theorem dX6_crash_26 : decode cX6_crash 26 = .ok (.iload_n 1, 1) := by decide +kernel
theorem dX6_crash_27 : decode cX6_crash 27 = .ok (.iconst 0, 1) := by decide +kernel
theorem dX6_crash_28 : decode cX6_crash 28 = .ok (.bastore, 1) := by decide +kernel
theorem dX6_crash_29 : decode cX6_crash 29 = .ok (.aload_n 0, 1) := by decide +kernel
theorem dX6_crash_30 : decode cX6_crash 30 = .ok (.getfield 142, 3) := by decide +kernel
theorem dX6_crash_33 : decode cX6_crash 33 = .ok (.iload_n 1, 1) := by decide +kernel
theorem dX6_crash_34 : decode cX6_crash 34 = .ok (.iaload, 1) := by decide +kernel
theorem dX6_crash_35 : decode cX6_crash 35 = .ok (.istore_n 2, 1) := by decide +kernel
theorem dX6_crash_36 : decode cX6_crash 36 = .ok (.iconst 0, 1) := by decide +kernel
theorem dX6_crash_37 : decode cX6_crash 37 = .ok (.istore_n 3, 1) := by decide +kernel
theorem dX6_crash_38 : decode cX6_crash 38 = .ok (.iload_n 3, 1) := by decide +kernel
theorem dX6_crash_39 : decode cX6_crash 39 = .ok (.iload_n 2, 1) := by decide +kernel
theorem dX6_crash_40 : decode cX6_crash 40 = .ok (.if_icmp .ge 27, 3) := by decide +kernel
theorem dX6_crash_43 : decode cX6_crash 43 = .ok (.aload_n 0, 1) := by decide +kernel
theorem dX6_crash_44 : decode cX6_crash 44 = .ok (.getfield 81, 3) := by decide +kernel
theorem dX6_crash_47 : decode cX6_crash 47 = .ok (.aload_n 0, 1) := by decide +kernel
theorem dX6_crash_48 : decode cX6_crash 48 = .ok (.getfield 139, 3) := by decide +kernel
theorem dX6_crash_51 : decode cX6_crash 51 = .ok (.sipush 4200, 3) := by decide +kernel
theorem dX6_crash_54 : decode cX6_crash 54 = .ok (.iload_n 1, 1) := by decide +kernel
theorem dX6_crash_55 : decode cX6_crash 55 = .ok (.imul, 1) := by decide +kernel
theorem dX6_crash_56 : decode cX6_crash 56 = .ok (.iload_n 3, 1) := by decide +kernel
theorem dX6_crash_57 : decode cX6_crash 57 = .ok (.iadd, 1) := by decide +kernel
theorem dX6_crash_58 : decode cX6_crash 58 = .ok (.iaload, 1) := by decide +kernel
theorem dX6_crash_59 : decode cX6_crash 59 = .ok (.iconst 0, 1) := by decide +kernel
theorem dX6_crash_60 : decode cX6_crash 60 = .ok (.bastore, 1) := by decide +kernel
theorem dX6_crash_61 : decode cX6_crash 61 = .ok (.iinc 3 1, 3) := by decide +kernel
theorem dX6_crash_64 : decode cX6_crash 64 = .ok (.goto (-26), 3) := by decide +kernel
theorem dX6_crash_67 : decode cX6_crash 67 = .ok (.aload_n 0, 1) := by decide +kernel
theorem dX6_crash_68 : decode cX6_crash 68 = .ok (.getfield 142, 3) := by decide +kernel
theorem dX6_crash_71 : decode cX6_crash 71 = .ok (.iload_n 1, 1) := by decide +kernel
theorem dX6_crash_72 : decode cX6_crash 72 = .ok (.iconst 0, 1) := by decide +kernel
theorem dX6_crash_73 : decode cX6_crash 73 = .ok (.iastore, 1) := by decide +kernel
theorem dX6_crash_74 : decode cX6_crash 74 = .ok (.aload_n 0, 1) := by decide +kernel
theorem dX6_crash_75 : decode cX6_crash 75 = .ok (.dup, 1) := by decide +kernel
theorem dX6_crash_76 : decode cX6_crash 76 = .ok (.getfield 165, 3) := by decide +kernel
theorem dX6_crash_79 : decode cX6_crash 79 = .ok (.iload_n 2, 1) := by decide +kernel
theorem dX6_crash_80 : decode cX6_crash 80 = .ok (.iadd, 1) := by decide +kernel
theorem dX6_crash_81 : decode cX6_crash 81 = .ok (.putfield 165, 3) := by decide +kernel
theorem dX6_crash_84 : decode cX6_crash 84 = .ok (.iload_n 2, 1) := by decide +kernel
theorem dX6_crash_85 : decode cX6_crash 85 = .ok (.ireturn, 1) := by decide +kernel
theorem dX6_start_0 : decode cX6_start 0 = .ok (.aload_n 0, 1) := by decide +kernel
theorem dX6_start_1 : decode cX6_start 1 = .ok (.iload_n 1, 1) := by decide +kernel
theorem dX6_start_2 : decode cX6_start 2 = .ok (.invokevirtual 201, 3) := by decide +kernel
theorem dX6_start_5 : decode cX6_start 5 = .ok (.ifCond .ne 5, 3) := by decide +kernel
theorem dX6_start_8 : decode cX6_start 8 = .ok (.iconst (-1), 1) := by decide +kernel
theorem dX6_start_9 : decode cX6_start 9 = .ok (.ireturn, 1) := by decide +kernel
theorem dX6_start_10 : decode cX6_start 10 = .ok (.aload_n 0, 1) := by decide +kernel
theorem dX6_start_11 : decode cX6_start 11 = .ok (.getfield 74, 3) := by decide +kernel
theorem dX6_start_14 : decode cX6_start 14 = .ok (.iload_n 1, 1) := by decide +kernel
theorem dX6_start_15 : decode cX6_start 15 = .ok (.baload, 1) := by decide +kernel
theorem dX6_start_16 : decode cX6_start 16 = .ok (.ifCond .eq 6, 3) := by decide +kernel
theorem dX6_start_19 : decode cX6_start 19 = .ok (.bipush (-3), 2) := by decide +kernel
theorem dX6_start_21 : decode cX6_start 21 = .ok (.ireturn, 1) := by decide +kernel
theorem dX6_start_22 : decode cX6_start 22 = .ok (.aload_n 0, 1) := by decide +kernel
theorem dX6_start_23 : decode cX6_start 23 = .ok (.getfield 74, 3) := by decide +kernel
theorem dX6_start_26 : decode cX6_start 26 = .ok (.iload_n 1, 1) := by decide +kernel
theorem dX6_start_27 : decode cX6_start 27 = .ok (.iconst 1, 1) := by decide +kernel
theorem dX6_start_28 : decode cX6_start 28 = .ok (.bastore, 1) := by decide +kernel
theorem dX6_start_29 : decode cX6_start 29 = .ok (.aload_n 0, 1) := by decide +kernel
theorem dX6_start_30 : decode cX6_start 30 = .ok (.iconst 2, 1) := by decide +kernel
theorem dX6_start_31 : decode cX6_start 31 = .ok (.iload_n 1, 1) := by decide +kernel
theorem dX6_start_32 : decode cX6_start 32 = .ok (.imul, 1) := by decide +kernel
theorem dX6_start_33 : decode cX6_start 33 = .ok (.iconst 1, 1) := by decide +kernel
theorem dX6_start_34 : decode cX6_start 34 = .ok (.iadd, 1) := by decide +kernel
theorem dX6_start_35 : decode cX6_start 35 = .ok (.iconst 2, 1) := by decide +kernel
theorem dX6_start_36 : decode cX6_start 36 = .ok (.iload_n 1, 1) := by decide +kernel
theorem dX6_start_37 : decode cX6_start 37 = .ok (.imul, 1) := by decide +kernel
theorem dX6_start_38 : decode cX6_start 38 = .ok (.invokevirtual 243, 3) := by decide +kernel
theorem dX6_start_41 : decode cX6_start 41 = .ok (.aload_n 0, 1) := by decide +kernel
theorem dX6_start_42 : decode cX6_start 42 = .ok (.getfield 78, 3) := by decide +kernel
theorem dX6_start_45 : decode cX6_start 45 = .ok (.iload_n 1, 1) := by decide +kernel
theorem dX6_start_46 : decode cX6_start 46 = .ok (.iconst 0, 1) := by decide +kernel
theorem dX6_start_47 : decode cX6_start 47 = .ok (.bastore, 1) := by decide +kernel
theorem dX6_start_48 : decode cX6_start 48 = .ok (.iconst 1, 1) := by decide +kernel
theorem dX6_start_49 : decode cX6_start 49 = .ok (.ireturn, 1) := by decide +kernel
theorem dX6_move_0 : decode cX6_move 0 = .ok (.aload_n 0, 1) := by decide +kernel
theorem dX6_move_1 : decode cX6_move 1 = .ok (.iload_n 1, 1) := by decide +kernel
theorem dX6_move_2 : decode cX6_move 2 = .ok (.invokevirtual 201, 3) := by decide +kernel
theorem dX6_move_5 : decode cX6_move 5 = .ok (.ifCond .eq 21, 3) := by decide +kernel
theorem dX6_move_8 : decode cX6_move 8 = .ok (.iload_n 2, 1) := by decide +kernel
theorem dX6_move_9 : decode cX6_move 9 = .ok (.iconst 0, 1) := by decide +kernel
theorem dX6_move_10 : decode cX6_move 10 = .ok (.bipush 7, 2) := by decide +kernel
theorem dX6_move_12 : decode cX6_move 12 = .ok (.invokestatic 152, 3) := by decide +kernel
theorem dX6_move_15 : decode cX6_move 15 = .ok (.ifCond .eq 11, 3) := by decide +kernel
theorem dX6_move_18 : decode cX6_move 18 = .ok (.aload_n 0, 1) := by decide +kernel
theorem dX6_move_19 : decode cX6_move 19 = .ok (.iload_n 3, 1) := by decide +kernel
theorem dX6_move_20 : decode cX6_move 20 = .ok (.invokevirtual 201, 3) := by decide +kernel
theorem dX6_move_23 : decode cX6_move 23 = .ok (.ifCond .ne 5, 3) := by decide +kernel
theorem dX6_move_26 : decode cX6_move 26 = .ok (.iconst (-1), 1) := by decide +kernel
theorem dX6_move_27 : decode cX6_move 27 = .ok (.ireturn, 1) := by decide +kernel
theorem dX6_move_28 : decode cX6_move 28 = .ok (.bipush 16, 2) := by decide +kernel
theorem dX6_move_30 : decode cX6_move 30 = .ok (.iload_n 1, 1) := by decide +kernel
theorem dX6_move_31 : decode cX6_move 31 = .ok (.imul, 1) := by decide +kernel
theorem dX6_move_32 : decode cX6_move 32 = .ok (.iload_n 2, 1) := by decide +kernel
theorem dX6_move_33 : decode cX6_move 33 = .ok (.iadd, 1) := by decide +kernel
theorem dX6_move_34 : decode cX6_move 34 = .ok (.istore 4, 2) := by decide +kernel
theorem dX6_move_36 : decode cX6_move 36 = .ok (.aload_n 0, 1) := by decide +kernel
theorem dX6_move_37 : decode cX6_move 37 = .ok (.getfield 74, 3) := by decide +kernel
theorem dX6_move_40 : decode cX6_move 40 = .ok (.iload_n 1, 1) := by decide +kernel
theorem dX6_move_41 : decode cX6_move 41 = .ok (.baload, 1) := by decide +kernel
theorem dX6_move_42 : decode cX6_move 42 = .ok (.ifCond .eq 40, 3) := by decide +kernel
theorem dX6_move_45 : decode cX6_move 45 = .ok (.aload_n 0, 1) := by decide +kernel
theorem dX6_move_46 : decode cX6_move 46 = .ok (.getfield 41, 3) := by decide +kernel
theorem dX6_move_49 : decode cX6_move 49 = .ok (.iload 4, 2) := by decide +kernel
theorem dX6_move_51 : decode cX6_move 51 = .ok (.iaload, 1) := by decide +kernel
theorem dX6_move_52 : decode cX6_move 52 = .ok (.ifCond .eq 30, 3) := by decide +kernel
theorem dX6_move_55 : decode cX6_move 55 = .ok (.aload_n 0, 1) := by decide +kernel
theorem dX6_move_56 : decode cX6_move 56 = .ok (.getfield 41, 3) := by decide +kernel
theorem dX6_move_59 : decode cX6_move 59 = .ok (.iload 4, 2) := by decide +kernel
theorem dX6_move_61 : decode cX6_move 61 = .ok (.iaload, 1) := by decide +kernel
theorem dX6_move_62 : decode cX6_move 62 = .ok (.iconst 2, 1) := by decide +kernel
theorem dX6_move_63 : decode cX6_move 63 = .ok (.if_icmp .ne 14, 3) := by decide +kernel
theorem dX6_move_66 : decode cX6_move 66 = .ok (.aload_n 0, 1) := by decide +kernel
theorem dX6_move_67 : decode cX6_move 67 = .ok (.getfield 47, 3) := by decide +kernel
theorem dX6_move_70 : decode cX6_move 70 = .ok (.iload 4, 2) := by decide +kernel
theorem dX6_move_72 : decode cX6_move 72 = .ok (.iaload, 1) := by decide +kernel
theorem dX6_move_73 : decode cX6_move 73 = .ok (.iload_n 3, 1) := by decide +kernel
theorem dX6_move_74 : decode cX6_move 74 = .ok (.if_icmp .ne 8, 3) := by decide +kernel
theorem dX6_move_77 : decode cX6_move 77 = .ok (.iload_n 3, 1) := by decide +kernel
theorem dX6_move_78 : decode cX6_move 78 = .ok (.iload_n 1, 1) := by decide +kernel
theorem dX6_move_79 : decode cX6_move 79 = .ok (.if_icmp .ne 6, 3) := by decide +kernel
theorem dX6_move_82 : decode cX6_move 82 = .ok (.bipush (-3), 2) := by decide +kernel
theorem dX6_move_84 : decode cX6_move 84 = .ok (.ireturn, 1) := by decide +kernel
theorem dX6_move_85 : decode cX6_move 85 = .ok (.aload_n 0, 1) := by decide +kernel
theorem dX6_move_86 : decode cX6_move 86 = .ok (.getfield 41, 3) := by decide +kernel
theorem dX6_move_89 : decode cX6_move 89 = .ok (.iload 4, 2) := by decide +kernel
theorem dX6_move_91 : decode cX6_move 91 = .ok (.iaload, 1) := by decide +kernel
theorem dX6_move_92 : decode cX6_move 92 = .ok (.iconst 1, 1) := by decide +kernel
theorem dX6_move_93 : decode cX6_move 93 = .ok (.if_icmp .ne 26, 3) := by decide +kernel
theorem dX6_move_96 : decode cX6_move 96 = .ok (.aload_n 0, 1) := by decide +kernel
theorem dX6_move_97 : decode cX6_move 97 = .ok (.getfield 41, 3) := by decide +kernel
theorem dX6_move_100 : decode cX6_move 100 = .ok (.iload 4, 2) := by decide +kernel
theorem dX6_move_102 : decode cX6_move 102 = .ok (.iconst 2, 1) := by decide +kernel
theorem dX6_move_103 : decode cX6_move 103 = .ok (.iastore, 1) := by decide +kernel
theorem dX6_move_104 : decode cX6_move 104 = .ok (.aload_n 0, 1) := by decide +kernel
theorem dX6_move_105 : decode cX6_move 105 = .ok (.getfield 47, 3) := by decide +kernel
theorem dX6_move_108 : decode cX6_move 108 = .ok (.iload 4, 2) := by decide +kernel
theorem dX6_move_110 : decode cX6_move 110 = .ok (.iload_n 3, 1) := by decide +kernel
theorem dX6_move_111 : decode cX6_move 111 = .ok (.iastore, 1) := by decide +kernel
theorem dX6_move_112 : decode cX6_move 112 = .ok (.aload_n 0, 1) := by decide +kernel
theorem dX6_move_113 : decode cX6_move 113 = .ok (.getfield 78, 3) := by decide +kernel
theorem dX6_move_116 : decode cX6_move 116 = .ok (.iload_n 1, 1) := by decide +kernel
theorem dX6_move_117 : decode cX6_move 117 = .ok (.iconst 1, 1) := by decide +kernel
theorem dX6_move_118 : decode cX6_move 118 = .ok (.bastore, 1) := by decide +kernel
theorem dX6_move_119 : decode cX6_move 119 = .ok (.aload_n 0, 1) := by decide +kernel
theorem dX6_move_120 : decode cX6_move 120 = .ok (.iconst 3, 1) := by decide +kernel
theorem dX6_move_121 : decode cX6_move 121 = .ok (.iload_n 3, 1) := by decide +kernel
theorem dX6_move_122 : decode cX6_move 122 = .ok (.iload_n 1, 1) := by decide +kernel
theorem dX6_move_123 : decode cX6_move 123 = .ok (.invokevirtual 182, 3) := by decide +kernel
theorem dX6_move_126 : decode cX6_move 126 = .ok (.istore 5, 2) := by decide +kernel
theorem dX6_move_128 : decode cX6_move 128 = .ok (.aload_n 0, 1) := by decide +kernel
theorem dX6_move_129 : decode cX6_move 129 = .ok (.getfield 93, 3) := by decide +kernel
theorem dX6_move_132 : decode cX6_move 132 = .ok (.iload 5, 2) := by decide +kernel
theorem dX6_move_134 : decode cX6_move 134 = .ok (.aload_n 0, 1) := by decide +kernel
theorem dX6_move_135 : decode cX6_move 135 = .ok (.getfield 44, 3) := by decide +kernel
theorem dX6_move_138 : decode cX6_move 138 = .ok (.iload 4, 2) := by decide +kernel
theorem dX6_move_140 : decode cX6_move 140 = .ok (.iaload, 1) := by decide +kernel
theorem dX6_move_141 : decode cX6_move 141 = .ok (.iconst 1, 1) := by decide +kernel
theorem dX6_move_142 : decode cX6_move 142 = .ok (.iadd, 1) := by decide +kernel
theorem dX6_move_143 : decode cX6_move 143 = .ok (.iastore, 1) := by decide +kernel
theorem dX6_move_144 : decode cX6_move 144 = .ok (.aload_n 0, 1) := by decide +kernel
theorem dX6_move_145 : decode cX6_move 145 = .ok (.getfield 96, 3) := by decide +kernel
theorem dX6_move_148 : decode cX6_move 148 = .ok (.iload 5, 2) := by decide +kernel
theorem dX6_move_150 : decode cX6_move 150 = .ok (.iload_n 2, 1) := by decide +kernel
theorem dX6_move_151 : decode cX6_move 151 = .ok (.iastore, 1) := by decide +kernel
theorem dX6_move_152 : decode cX6_move 152 = .ok (.aload_n 0, 1) := by decide +kernel
theorem dX6_move_153 : decode cX6_move 153 = .ok (.getfield 102, 3) := by decide +kernel
theorem dX6_move_156 : decode cX6_move 156 = .ok (.iload 5, 2) := by decide +kernel
theorem dX6_move_158 : decode cX6_move 158 = .ok (.iload_n 2, 1) := by decide +kernel
theorem dX6_move_159 : decode cX6_move 159 = .ok (.iastore, 1) := by decide +kernel
theorem dX6_move_160 : decode cX6_move 160 = .ok (.aload_n 0, 1) := by decide +kernel
theorem dX6_move_161 : decode cX6_move 161 = .ok (.getfield 99, 3) := by decide +kernel
theorem dX6_move_164 : decode cX6_move 164 = .ok (.iload 5, 2) := by decide +kernel
theorem dX6_move_166 : decode cX6_move 166 = .ok (.aload_n 0, 1) := by decide +kernel
theorem dX6_move_167 : decode cX6_move 167 = .ok (.getfield 53, 3) := by decide +kernel
theorem dX6_move_170 : decode cX6_move 170 = .ok (.iload 4, 2) := by decide +kernel
theorem dX6_move_172 : decode cX6_move 172 = .ok (.iaload, 1) := by decide +kernel
theorem dX6_move_173 : decode cX6_move 173 = .ok (.iastore, 1) := by decide +kernel
theorem dX6_move_174 : decode cX6_move 174 = .ok (.iconst 0, 1) := by decide +kernel
theorem dX6_move_175 : decode cX6_move 175 = .ok (.istore 6, 2) := by decide +kernel
theorem dX6_move_177 : decode cX6_move 177 = .ok (.iload 6, 2) := by decide +kernel
theorem dX6_move_179 : decode cX6_move 179 = .ok (.iconst 4, 1) := by decide +kernel
theorem dX6_move_180 : decode cX6_move 180 = .ok (.if_icmp .ge 33, 3) := by decide +kernel
theorem dX6_move_183 : decode cX6_move 183 = .ok (.aload_n 0, 1) := by decide +kernel
theorem dX6_move_184 : decode cX6_move 184 = .ok (.getfield 114, 3) := by decide +kernel
theorem dX6_move_187 : decode cX6_move 187 = .ok (.iconst 4, 1) := by decide +kernel
theorem dX6_move_188 : decode cX6_move 188 = .ok (.iload 5, 2) := by decide +kernel
theorem dX6_move_190 : decode cX6_move 190 = .ok (.imul, 1) := by decide +kernel
theorem dX6_move_191 : decode cX6_move 191 = .ok (.iload 6, 2) := by decide +kernel
theorem dX6_move_193 : decode cX6_move 193 = .ok (.iadd, 1) := by decide +kernel
theorem dX6_move_194 : decode cX6_move 194 = .ok (.aload_n 0, 1) := by decide +kernel
theorem dX6_move_195 : decode cX6_move 195 = .ok (.getfield 50, 3) := by decide +kernel
theorem dX6_move_198 : decode cX6_move 198 = .ok (.iconst 4, 1) := by decide +kernel
theorem dX6_move_199 : decode cX6_move 199 = .ok (.iload 4, 2) := by decide +kernel
theorem dX6_move_201 : decode cX6_move 201 = .ok (.imul, 1) := by decide +kernel
theorem dX6_move_202 : decode cX6_move 202 = .ok (.iload 6, 2) := by decide +kernel
theorem dX6_move_204 : decode cX6_move 204 = .ok (.iadd, 1) := by decide +kernel
theorem dX6_move_205 : decode cX6_move 205 = .ok (.laload, 1) := by decide +kernel
theorem dX6_move_206 : decode cX6_move 206 = .ok (.lastore, 1) := by decide +kernel
theorem dX6_move_207 : decode cX6_move 207 = .ok (.iinc 6 1, 3) := by decide +kernel
theorem dX6_move_210 : decode cX6_move 210 = .ok (.goto (-33), 3) := by decide +kernel
theorem dX6_move_213 : decode cX6_move 213 = .ok (.iconst 0, 1) := by decide +kernel
theorem dX6_move_214 : decode cX6_move 214 = .ok (.istore 6, 2) := by decide +kernel
theorem dX6_move_216 : decode cX6_move 216 = .ok (.iload 6, 2) := by decide +kernel
theorem dX6_move_218 : decode cX6_move 218 = .ok (.aload_n 0, 1) := by decide +kernel
theorem dX6_move_219 : decode cX6_move 219 = .ok (.getfield 53, 3) := by decide +kernel
theorem dX6_move_222 : decode cX6_move 222 = .ok (.iload 4, 2) := by decide +kernel
theorem dX6_move_224 : decode cX6_move 224 = .ok (.iaload, 1) := by decide +kernel
theorem dX6_move_225 : decode cX6_move 225 = .ok (.if_icmp .ge 113, 3) := by decide +kernel
theorem dX6_move_228 : decode cX6_move 228 = .ok (.aload_n 0, 1) := by decide +kernel
theorem dX6_move_229 : decode cX6_move 229 = .ok (.getfield 118, 3) := by decide +kernel
theorem dX6_move_232 : decode cX6_move 232 = .ok (.bipush 12, 2) := by decide +kernel
theorem dX6_move_234 : decode cX6_move 234 = .ok (.iload 5, 2) := by decide +kernel
theorem dX6_move_236 : decode cX6_move 236 = .ok (.imul, 1) := by decide +kernel
theorem dX6_move_237 : decode cX6_move 237 = .ok (.iload 6, 2) := by decide +kernel
theorem dX6_move_239 : decode cX6_move 239 = .ok (.iadd, 1) := by decide +kernel
theorem dX6_move_240 : decode cX6_move 240 = .ok (.aload_n 0, 1) := by decide +kernel
theorem dX6_move_241 : decode cX6_move 241 = .ok (.getfield 56, 3) := by decide +kernel
theorem dX6_move_244 : decode cX6_move 244 = .ok (.bipush 12, 2) := by decide +kernel
theorem dX6_move_246 : decode cX6_move 246 = .ok (.iload 4, 2) := by decide +kernel
theorem dX6_move_248 : decode cX6_move 248 = .ok (.imul, 1) := by decide +kernel
theorem dX6_move_249 : decode cX6_move 249 = .ok (.iload 6, 2) := by decide +kernel
theorem dX6_move_251 : decode cX6_move 251 = .ok (.iadd, 1) := by decide +kernel
theorem dX6_move_252 : decode cX6_move 252 = .ok (.iaload, 1) := by decide +kernel
theorem dX6_move_253 : decode cX6_move 253 = .ok (.iastore, 1) := by decide +kernel
theorem dX6_move_254 : decode cX6_move 254 = .ok (.aload_n 0, 1) := by decide +kernel
theorem dX6_move_255 : decode cX6_move 255 = .ok (.getfield 121, 3) := by decide +kernel
theorem dX6_move_258 : decode cX6_move 258 = .ok (.bipush 12, 2) := by decide +kernel
theorem dX6_move_260 : decode cX6_move 260 = .ok (.iload 5, 2) := by decide +kernel
theorem dX6_move_262 : decode cX6_move 262 = .ok (.imul, 1) := by decide +kernel
theorem dX6_move_263 : decode cX6_move 263 = .ok (.iload 6, 2) := by decide +kernel
theorem dX6_move_265 : decode cX6_move 265 = .ok (.iadd, 1) := by decide +kernel
theorem dX6_move_266 : decode cX6_move 266 = .ok (.aload_n 0, 1) := by decide +kernel
theorem dX6_move_267 : decode cX6_move 267 = .ok (.getfield 59, 3) := by decide +kernel
theorem dX6_move_270 : decode cX6_move 270 = .ok (.bipush 12, 2) := by decide +kernel
theorem dX6_move_272 : decode cX6_move 272 = .ok (.iload 4, 2) := by decide +kernel
theorem dX6_move_274 : decode cX6_move 274 = .ok (.imul, 1) := by decide +kernel
theorem dX6_move_275 : decode cX6_move 275 = .ok (.iload 6, 2) := by decide +kernel
theorem dX6_move_277 : decode cX6_move 277 = .ok (.iadd, 1) := by decide +kernel
theorem dX6_move_278 : decode cX6_move 278 = .ok (.iaload, 1) := by decide +kernel
theorem dX6_move_279 : decode cX6_move 279 = .ok (.iastore, 1) := by decide +kernel
theorem dX6_move_280 : decode cX6_move 280 = .ok (.aload_n 0, 1) := by decide +kernel
theorem dX6_move_281 : decode cX6_move 281 = .ok (.getfield 124, 3) := by decide +kernel
theorem dX6_move_284 : decode cX6_move 284 = .ok (.bipush 12, 2) := by decide +kernel
theorem dX6_move_286 : decode cX6_move 286 = .ok (.iload 5, 2) := by decide +kernel
theorem dX6_move_288 : decode cX6_move 288 = .ok (.imul, 1) := by decide +kernel
theorem dX6_move_289 : decode cX6_move 289 = .ok (.iload 6, 2) := by decide +kernel
theorem dX6_move_291 : decode cX6_move 291 = .ok (.iadd, 1) := by decide +kernel
theorem dX6_move_292 : decode cX6_move 292 = .ok (.aload_n 0, 1) := by decide +kernel
theorem dX6_move_293 : decode cX6_move 293 = .ok (.getfield 62, 3) := by decide +kernel
theorem dX6_move_296 : decode cX6_move 296 = .ok (.bipush 12, 2) := by decide +kernel
theorem dX6_move_298 : decode cX6_move 298 = .ok (.iload 4, 2) := by decide +kernel
theorem dX6_move_300 : decode cX6_move 300 = .ok (.imul, 1) := by decide +kernel
theorem dX6_move_301 : decode cX6_move 301 = .ok (.iload 6, 2) := by decide +kernel
theorem dX6_move_303 : decode cX6_move 303 = .ok (.iadd, 1) := by decide +kernel
theorem dX6_move_304 : decode cX6_move 304 = .ok (.iaload, 1) := by decide +kernel
theorem dX6_move_305 : decode cX6_move 305 = .ok (.iastore, 1) := by decide +kernel
theorem dX6_move_306 : decode cX6_move 306 = .ok (.aload_n 0, 1) := by decide +kernel
theorem dX6_move_307 : decode cX6_move 307 = .ok (.getfield 127, 3) := by decide +kernel
theorem dX6_move_310 : decode cX6_move 310 = .ok (.bipush 12, 2) := by decide +kernel
theorem dX6_move_312 : decode cX6_move 312 = .ok (.iload 5, 2) := by decide +kernel
theorem dX6_move_314 : decode cX6_move 314 = .ok (.imul, 1) := by decide +kernel
theorem dX6_move_315 : decode cX6_move 315 = .ok (.iload 6, 2) := by decide +kernel
theorem dX6_move_317 : decode cX6_move 317 = .ok (.iadd, 1) := by decide +kernel
theorem dX6_move_318 : decode cX6_move 318 = .ok (.aload_n 0, 1) := by decide +kernel
theorem dX6_move_319 : decode cX6_move 319 = .ok (.getfield 65, 3) := by decide +kernel
theorem dX6_move_322 : decode cX6_move 322 = .ok (.bipush 12, 2) := by decide +kernel
theorem dX6_move_324 : decode cX6_move 324 = .ok (.iload 4, 2) := by decide +kernel
theorem dX6_move_326 : decode cX6_move 326 = .ok (.imul, 1) := by decide +kernel
theorem dX6_move_327 : decode cX6_move 327 = .ok (.iload 6, 2) := by decide +kernel
theorem dX6_move_329 : decode cX6_move 329 = .ok (.iadd, 1) := by decide +kernel
theorem dX6_move_330 : decode cX6_move 330 = .ok (.laload, 1) := by decide +kernel
theorem dX6_move_331 : decode cX6_move 331 = .ok (.lastore, 1) := by decide +kernel
theorem dX6_move_332 : decode cX6_move 332 = .ok (.iinc 6 1, 3) := by decide +kernel
theorem dX6_move_335 : decode cX6_move 335 = .ok (.goto (-119), 3) := by decide +kernel
theorem dX6_move_338 : decode cX6_move 338 = .ok (.iconst 0, 1) := by decide +kernel
theorem dX6_move_339 : decode cX6_move 339 = .ok (.istore 6, 2) := by decide +kernel
theorem dX6_move_341 : decode cX6_move 341 = .ok (.iload 6, 2) := by decide +kernel
theorem dX6_move_343 : decode cX6_move 343 = .ok (.bipush 6, 2) := by decide +kernel
theorem dX6_move_345 : decode cX6_move 345 = .ok (.if_icmp .ge 61, 3) := by decide +kernel
theorem dX6_move_348 : decode cX6_move 348 = .ok (.aload_n 0, 1) := by decide +kernel
theorem dX6_move_349 : decode cX6_move 349 = .ok (.getfield 130, 3) := by decide +kernel
theorem dX6_move_352 : decode cX6_move 352 = .ok (.bipush 6, 2) := by decide +kernel
theorem dX6_move_354 : decode cX6_move 354 = .ok (.iload 5, 2) := by decide +kernel
theorem dX6_move_356 : decode cX6_move 356 = .ok (.imul, 1) := by decide +kernel
theorem dX6_move_357 : decode cX6_move 357 = .ok (.iload 6, 2) := by decide +kernel
theorem dX6_move_359 : decode cX6_move 359 = .ok (.iadd, 1) := by decide +kernel
theorem dX6_move_360 : decode cX6_move 360 = .ok (.aload_n 0, 1) := by decide +kernel
theorem dX6_move_361 : decode cX6_move 361 = .ok (.getfield 68, 3) := by decide +kernel
theorem dX6_move_364 : decode cX6_move 364 = .ok (.bipush 6, 2) := by decide +kernel
theorem dX6_move_366 : decode cX6_move 366 = .ok (.iload 4, 2) := by decide +kernel
theorem dX6_move_368 : decode cX6_move 368 = .ok (.imul, 1) := by decide +kernel
theorem dX6_move_369 : decode cX6_move 369 = .ok (.iload 6, 2) := by decide +kernel
theorem dX6_move_371 : decode cX6_move 371 = .ok (.iadd, 1) := by decide +kernel
theorem dX6_move_372 : decode cX6_move 372 = .ok (.iaload, 1) := by decide +kernel
theorem dX6_move_373 : decode cX6_move 373 = .ok (.iastore, 1) := by decide +kernel
theorem dX6_move_374 : decode cX6_move 374 = .ok (.aload_n 0, 1) := by decide +kernel
theorem dX6_move_375 : decode cX6_move 375 = .ok (.getfield 133, 3) := by decide +kernel
theorem dX6_move_378 : decode cX6_move 378 = .ok (.bipush 6, 2) := by decide +kernel
theorem dX6_move_380 : decode cX6_move 380 = .ok (.iload 5, 2) := by decide +kernel
theorem dX6_move_382 : decode cX6_move 382 = .ok (.imul, 1) := by decide +kernel
theorem dX6_move_383 : decode cX6_move 383 = .ok (.iload 6, 2) := by decide +kernel
theorem dX6_move_385 : decode cX6_move 385 = .ok (.iadd, 1) := by decide +kernel
theorem dX6_move_386 : decode cX6_move 386 = .ok (.aload_n 0, 1) := by decide +kernel
theorem dX6_move_387 : decode cX6_move 387 = .ok (.getfield 71, 3) := by decide +kernel
theorem dX6_move_390 : decode cX6_move 390 = .ok (.bipush 6, 2) := by decide +kernel
theorem dX6_move_392 : decode cX6_move 392 = .ok (.iload 4, 2) := by decide +kernel
theorem dX6_move_394 : decode cX6_move 394 = .ok (.imul, 1) := by decide +kernel
theorem dX6_move_395 : decode cX6_move 395 = .ok (.iload 6, 2) := by decide +kernel
theorem dX6_move_397 : decode cX6_move 397 = .ok (.iadd, 1) := by decide +kernel
theorem dX6_move_398 : decode cX6_move 398 = .ok (.iaload, 1) := by decide +kernel
theorem dX6_move_399 : decode cX6_move 399 = .ok (.iastore, 1) := by decide +kernel
theorem dX6_move_400 : decode cX6_move 400 = .ok (.iinc 6 1, 3) := by decide +kernel
theorem dX6_move_403 : decode cX6_move 403 = .ok (.goto (-62), 3) := by decide +kernel
theorem dX6_move_406 : decode cX6_move 406 = .ok (.aload_n 0, 1) := by decide +kernel
theorem dX6_move_407 : decode cX6_move 407 = .ok (.iload_n 1, 1) := by decide +kernel
theorem dX6_move_408 : decode cX6_move 408 = .ok (.iload 5, 2) := by decide +kernel
theorem dX6_move_410 : decode cX6_move 410 = .ok (.invokevirtual 210, 3) := by decide +kernel
theorem dX6_move_413 : decode cX6_move 413 = .ok (.aload_n 0, 1) := by decide +kernel
theorem dX6_move_414 : decode cX6_move 414 = .ok (.getfield 44, 3) := by decide +kernel
theorem dX6_move_417 : decode cX6_move 417 = .ok (.iload 4, 2) := by decide +kernel
theorem dX6_move_419 : decode cX6_move 419 = .ok (.iaload, 1) := by decide +kernel
theorem dX6_move_420 : decode cX6_move 420 = .ok (.iconst 1, 1) := by decide +kernel
theorem dX6_move_421 : decode cX6_move 421 = .ok (.iadd, 1) := by decide +kernel
theorem dX6_move_422 : decode cX6_move 422 = .ok (.ireturn, 1) := by decide +kernel
theorem dX6_collect_0 : decode cX6_collect 0 = .ok (.aload_n 0, 1) := by decide +kernel
theorem dX6_collect_1 : decode cX6_collect 1 = .ok (.iload_n 1, 1) := by decide +kernel
theorem dX6_collect_2 : decode cX6_collect 2 = .ok (.invokevirtual 201, 3) := by decide +kernel
theorem dX6_collect_5 : decode cX6_collect 5 = .ok (.ifCond .ne 5, 3) := by decide +kernel
theorem dX6_collect_8 : decode cX6_collect 8 = .ok (.iconst (-1), 1) := by decide +kernel
theorem dX6_collect_9 : decode cX6_collect 9 = .ok (.ireturn, 1) := by decide +kernel
theorem dX6_collect_10 : decode cX6_collect 10 = .ok (.aload_n 0, 1) := by decide +kernel
theorem dX6_collect_11 : decode cX6_collect 11 = .ok (.getfield 74, 3) := by decide +kernel
theorem dX6_collect_14 : decode cX6_collect 14 = .ok (.iload_n 1, 1) := by decide +kernel
theorem dX6_collect_15 : decode cX6_collect 15 = .ok (.baload, 1) := by decide +kernel
theorem dX6_collect_16 : decode cX6_collect 16 = .ok (.ifCond .ne 6, 3) := by decide +kernel
theorem dX6_collect_19 : decode cX6_collect 19 = .ok (.bipush (-3), 2) := by decide +kernel
theorem dX6_collect_21 : decode cX6_collect 21 = .ok (.ireturn, 1) := by decide +kernel
theorem dX6_collect_22 : decode cX6_collect 22 = .ok (.iconst 0, 1) := by decide +kernel
theorem dX6_collect_23 : decode cX6_collect 23 = .ok (.istore_n 2, 1) := by decide +kernel
theorem dX6_collect_24 : decode cX6_collect 24 = .ok (.iconst 0, 1) := by decide +kernel
theorem dX6_collect_25 : decode cX6_collect 25 = .ok (.istore_n 3, 1) := by decide +kernel
theorem dX6_collect_26 : decode cX6_collect 26 = .ok (.iload_n 3, 1) := by decide +kernel
theorem dX6_collect_27 : decode cX6_collect 27 = .ok (.bipush 8, 2) := by decide +kernel
theorem dX6_collect_29 : decode cX6_collect 29 = .ok (.if_icmp .ge 84, 3) := by decide +kernel
theorem dX6_collect_32 : decode cX6_collect 32 = .ok (.bipush 16, 2) := by decide +kernel
theorem dX6_collect_34 : decode cX6_collect 34 = .ok (.iload_n 1, 1) := by decide +kernel
theorem dX6_collect_35 : decode cX6_collect 35 = .ok (.imul, 1) := by decide +kernel
theorem dX6_collect_36 : decode cX6_collect 36 = .ok (.iload_n 3, 1) := by decide +kernel
theorem dX6_collect_37 : decode cX6_collect 37 = .ok (.iadd, 1) := by decide +kernel
theorem dX6_collect_38 : decode cX6_collect 38 = .ok (.istore 4, 2) := by decide +kernel
theorem dX6_collect_40 : decode cX6_collect 40 = .ok (.aload_n 0, 1) := by decide +kernel
theorem dX6_collect_41 : decode cX6_collect 41 = .ok (.getfield 53, 3) := by decide +kernel
theorem dX6_collect_44 : decode cX6_collect 44 = .ok (.iload 4, 2) := by decide +kernel
theorem dX6_collect_46 : decode cX6_collect 46 = .ok (.iaload, 1) := by decide +kernel
theorem dX6_collect_47 : decode cX6_collect 47 = .ok (.iconst 1, 1) := by decide +kernel
theorem dX6_collect_48 : decode cX6_collect 48 = .ok (.isub, 1) := by decide +kernel
theorem dX6_collect_49 : decode cX6_collect 49 = .ok (.istore 5, 2) := by decide +kernel
theorem dX6_collect_51 : decode cX6_collect 51 = .ok (.iload 5, 2) := by decide +kernel
theorem dX6_collect_53 : decode cX6_collect 53 = .ok (.ifCond .lt 54, 3) := by decide +kernel
theorem dX6_collect_56 : decode cX6_collect 56 = .ok (.aload_n 0, 1) := by decide +kernel
theorem dX6_collect_57 : decode cX6_collect 57 = .ok (.getfield 41, 3) := by decide +kernel
theorem dX6_collect_60 : decode cX6_collect 60 = .ok (.iload 4, 2) := by decide +kernel
theorem dX6_collect_62 : decode cX6_collect 62 = .ok (.iaload, 1) := by decide +kernel
theorem dX6_collect_63 : decode cX6_collect 63 = .ok (.iconst 1, 1) := by decide +kernel
theorem dX6_collect_64 : decode cX6_collect 64 = .ok (.if_icmp .ne 43, 3) := by decide +kernel
theorem dX6_collect_67 : decode cX6_collect 67 = .ok (.aload_n 0, 1) := by decide +kernel
theorem dX6_collect_68 : decode cX6_collect 68 = .ok (.aload_n 0, 1) := by decide +kernel
theorem dX6_collect_69 : decode cX6_collect 69 = .ok (.getfield 59, 3) := by decide +kernel
theorem dX6_collect_72 : decode cX6_collect 72 = .ok (.bipush 12, 2) := by decide +kernel
theorem dX6_collect_74 : decode cX6_collect 74 = .ok (.iload 4, 2) := by decide +kernel
theorem dX6_collect_76 : decode cX6_collect 76 = .ok (.imul, 1) := by decide +kernel
theorem dX6_collect_77 : decode cX6_collect 77 = .ok (.iload 5, 2) := by decide +kernel
theorem dX6_collect_79 : decode cX6_collect 79 = .ok (.iadd, 1) := by decide +kernel
theorem dX6_collect_80 : decode cX6_collect 80 = .ok (.iaload, 1) := by decide +kernel
theorem dX6_collect_81 : decode cX6_collect 81 = .ok (.invokevirtual 179, 3) := by decide +kernel
theorem dX6_collect_84 : decode cX6_collect 84 = .ok (.ifCond .eq 6, 3) := by decide +kernel
theorem dX6_collect_87 : decode cX6_collect 87 = .ok (.goto 14, 3) := by decide +kernel
theorem dX6_collect_90 : decode cX6_collect 90 = .ok (.aload_n 0, 1) := by decide +kernel
theorem dX6_collect_91 : decode cX6_collect 91 = .ok (.iload 4, 2) := by decide +kernel
theorem dX6_collect_93 : decode cX6_collect 93 = .ok (.iload 5, 2) := by decide +kernel
theorem dX6_collect_95 : decode cX6_collect 95 = .ok (.invokevirtual 207, 3) := by decide +kernel
theorem dX6_collect_98 : decode cX6_collect 98 = .ok (.iinc 2 1, 3) := by decide +kernel
theorem dX6_collect_101 : decode cX6_collect 101 = .ok (.iinc 5 (-1), 3) := by decide +kernel
theorem dX6_collect_104 : decode cX6_collect 104 = .ok (.goto (-53), 3) := by decide +kernel
theorem dX6_collect_107 : decode cX6_collect 107 = .ok (.iinc 3 1, 3) := by decide +kernel
theorem dX6_collect_110 : decode cX6_collect 110 = .ok (.goto (-84), 3) := by decide +kernel
theorem dX6_collect_113 : decode cX6_collect 113 = .ok (.aload_n 0, 1) := by decide +kernel
theorem dX6_collect_114 : decode cX6_collect 114 = .ok (.getfield 78, 3) := by decide +kernel
theorem dX6_collect_117 : decode cX6_collect 117 = .ok (.iload_n 1, 1) := by decide +kernel
theorem dX6_collect_118 : decode cX6_collect 118 = .ok (.dup2, 1) := by decide +kernel
theorem dX6_collect_119 : decode cX6_collect 119 = .ok (.baload, 1) := by decide +kernel
theorem dX6_collect_120 : decode cX6_collect 120 = .ok (.iload_n 2, 1) := by decide +kernel
theorem dX6_collect_121 : decode cX6_collect 121 = .ok (.ifCond .le 7, 3) := by decide +kernel
theorem dX6_collect_124 : decode cX6_collect 124 = .ok (.iconst 1, 1) := by decide +kernel
theorem dX6_collect_125 : decode cX6_collect 125 = .ok (.goto 4, 3) := by decide +kernel
theorem dX6_collect_128 : decode cX6_collect 128 = .ok (.iconst 0, 1) := by decide +kernel
theorem dX6_collect_129 : decode cX6_collect 129 = .ok (.ior, 1) := by decide +kernel
theorem dX6_collect_130 : decode cX6_collect 130 = .ok (.bastore, 1) := by decide +kernel
theorem dX6_collect_131 : decode cX6_collect 131 = .ok (.iload_n 2, 1) := by decide +kernel
theorem dX6_collect_132 : decode cX6_collect 132 = .ok (.ireturn, 1) := by decide +kernel
theorem dX6_ticks_0 : decode cX6_ticks 0 = .ok (.iload_n 1, 1) := by decide +kernel
theorem dX6_ticks_1 : decode cX6_ticks 1 = .ok (.iconst 0, 1) := by decide +kernel
theorem dX6_ticks_2 : decode cX6_ticks 2 = .ok (.sipush 1000, 3) := by decide +kernel
theorem dX6_ticks_5 : decode cX6_ticks 5 = .ok (.invokestatic 152, 3) := by decide +kernel
theorem dX6_ticks_8 : decode cX6_ticks 8 = .ok (.ifCond .ne 5, 3) := by decide +kernel
theorem dX6_ticks_11 : decode cX6_ticks 11 = .ok (.iconst (-1), 1) := by decide +kernel
theorem dX6_ticks_12 : decode cX6_ticks 12 = .ok (.ireturn, 1) := by decide +kernel
theorem dX6_ticks_13 : decode cX6_ticks 13 = .ok (.aload_n 0, 1) := by decide +kernel
theorem dX6_ticks_14 : decode cX6_ticks 14 = .ok (.dup, 1) := by decide +kernel
theorem dX6_ticks_15 : decode cX6_ticks 15 = .ok (.getfield 156, 3) := by decide +kernel
theorem dX6_ticks_18 : decode cX6_ticks 18 = .ok (.iload_n 1, 1) := by decide +kernel
theorem dX6_ticks_19 : decode cX6_ticks 19 = .ok (.iadd, 1) := by decide +kernel
theorem dX6_ticks_20 : decode cX6_ticks 20 = .ok (.putfield 156, 3) := by decide +kernel
theorem dX6_ticks_23 : decode cX6_ticks 23 = .ok (.aload_n 0, 1) := by decide +kernel
theorem dX6_ticks_24 : decode cX6_ticks 24 = .ok (.getfield 156, 3) := by decide +kernel
theorem dX6_ticks_27 : decode cX6_ticks 27 = .ok (.ireturn, 1) := by decide +kernel
theorem dX6_store_0 : decode cX6_store 0 = .ok (.aload_n 0, 1) := by decide +kernel
theorem dX6_store_1 : decode cX6_store 1 = .ok (.getfield 74, 3) := by decide +kernel
theorem dX6_store_4 : decode cX6_store 4 = .ok (.iload_n 1, 1) := by decide +kernel
theorem dX6_store_5 : decode cX6_store 5 = .ok (.baload, 1) := by decide +kernel
theorem dX6_store_6 : decode cX6_store 6 = .ok (.ifCond .eq 10, 3) := by decide +kernel
theorem dX6_store_9 : decode cX6_store 9 = .ok (.bipush 16, 2) := by decide +kernel
theorem dX6_store_11 : decode cX6_store 11 = .ok (.iload_n 1, 1) := by decide +kernel
theorem dX6_store_12 : decode cX6_store 12 = .ok (.imul, 1) := by decide +kernel
theorem dX6_store_13 : decode cX6_store 13 = .ok (.goto 10, 3) := by decide +kernel
theorem dX6_store_16 : decode cX6_store 16 = .ok (.bipush 16, 2) := by decide +kernel
theorem dX6_store_18 : decode cX6_store 18 = .ok (.iload_n 1, 1) := by decide +kernel
theorem dX6_store_19 : decode cX6_store 19 = .ok (.imul, 1) := by decide +kernel
theorem dX6_store_20 : decode cX6_store 20 = .ok (.bipush 8, 2) := by decide +kernel
theorem dX6_store_22 : decode cX6_store 22 = .ok (.iadd, 1) := by decide +kernel
theorem dX6_store_23 : decode cX6_store 23 = .ok (.ireturn, 1) := by decide +kernel
theorem dX6_server_0 : decode cX6_server 0 = .ok (.aload_n 0, 1) := by decide +kernel
theorem dX6_server_1 : decode cX6_server 1 = .ok (.iload_n 1, 1) := by decide +kernel
theorem dX6_server_2 : decode cX6_server 2 = .ok (.invokevirtual 201, 3) := by decide +kernel
theorem dX6_server_5 : decode cX6_server 5 = .ok (.ifCond .ne 5, 3) := by decide +kernel
theorem dX6_server_8 : decode cX6_server 8 = .ok (.iconst (-1), 1) := by decide +kernel
theorem dX6_server_9 : decode cX6_server 9 = .ok (.ireturn, 1) := by decide +kernel
theorem dX6_server_10 : decode cX6_server 10 = .ok (.iconst 0, 1) := by decide +kernel
theorem dX6_server_11 : decode cX6_server 11 = .ok (.istore_n 3, 1) := by decide +kernel
theorem dX6_server_12 : decode cX6_server 12 = .ok (.iload_n 2, 1) := by decide +kernel
theorem dX6_server_13 : decode cX6_server 13 = .ok (.tableswitch 119 0 3 #[31, 46, 70, 77], 31) := by decide +kernel
theorem dX6_server_44 : decode cX6_server 44 = .ok (.aload_n 0, 1) := by decide +kernel
theorem dX6_server_45 : decode cX6_server 45 = .ok (.getfield 74, 3) := by decide +kernel
theorem dX6_server_48 : decode cX6_server 48 = .ok (.iload_n 1, 1) := by decide +kernel
theorem dX6_server_49 : decode cX6_server 49 = .ok (.baload, 1) := by decide +kernel
theorem dX6_server_50 : decode cX6_server 50 = .ok (.ifCond .eq 7, 3) := by decide +kernel
theorem dX6_server_53 : decode cX6_server 53 = .ok (.iconst 1, 1) := by decide +kernel
theorem dX6_server_54 : decode cX6_server 54 = .ok (.goto 4, 3) := by decide +kernel
theorem dX6_server_57 : decode cX6_server 57 = .ok (.iconst 0, 1) := by decide +kernel
theorem dX6_server_58 : decode cX6_server 58 = .ok (.ireturn, 1) := by decide +kernel
theorem dX6_server_59 : decode cX6_server 59 = .ok (.aload_n 0, 1) := by decide +kernel
theorem dX6_server_60 : decode cX6_server 60 = .ok (.getfield 74, 3) := by decide +kernel
theorem dX6_server_63 : decode cX6_server 63 = .ok (.iload_n 1, 1) := by decide +kernel
theorem dX6_server_64 : decode cX6_server 64 = .ok (.baload, 1) := by decide +kernel
theorem dX6_server_65 : decode cX6_server 65 = .ok (.ifCond .eq 16, 3) := by decide +kernel
theorem dX6_server_68 : decode cX6_server 68 = .ok (.aload_n 0, 1) := by decide +kernel
theorem dX6_server_69 : decode cX6_server 69 = .ok (.getfield 78, 3) := by decide +kernel
theorem dX6_server_72 : decode cX6_server 72 = .ok (.iload_n 1, 1) := by decide +kernel
theorem dX6_server_73 : decode cX6_server 73 = .ok (.baload, 1) := by decide +kernel
theorem dX6_server_74 : decode cX6_server 74 = .ok (.ifCond .ne 7, 3) := by decide +kernel
theorem dX6_server_77 : decode cX6_server 77 = .ok (.iconst 1, 1) := by decide +kernel
theorem dX6_server_78 : decode cX6_server 78 = .ok (.goto 4, 3) := by decide +kernel
theorem dX6_server_81 : decode cX6_server 81 = .ok (.iconst 0, 1) := by decide +kernel
theorem dX6_server_82 : decode cX6_server 82 = .ok (.ireturn, 1) := by decide +kernel
theorem dX6_server_83 : decode cX6_server 83 = .ok (.aload_n 0, 1) := by decide +kernel
theorem dX6_server_84 : decode cX6_server 84 = .ok (.getfield 142, 3) := by decide +kernel
theorem dX6_server_87 : decode cX6_server 87 = .ok (.iload_n 1, 1) := by decide +kernel
theorem dX6_server_88 : decode cX6_server 88 = .ok (.iaload, 1) := by decide +kernel
theorem dX6_server_89 : decode cX6_server 89 = .ok (.ireturn, 1) := by decide +kernel
theorem dX6_server_90 : decode cX6_server 90 = .ok (.iconst 0, 1) := by decide +kernel
theorem dX6_server_91 : decode cX6_server 91 = .ok (.istore 4, 2) := by decide +kernel
theorem dX6_server_93 : decode cX6_server 93 = .ok (.iload 4, 2) := by decide +kernel
theorem dX6_server_95 : decode cX6_server 95 = .ok (.bipush 8, 2) := by decide +kernel
theorem dX6_server_97 : decode cX6_server 97 = .ok (.if_icmp .ge 33, 3) := by decide +kernel
theorem dX6_server_100 : decode cX6_server 100 = .ok (.aload_n 0, 1) := by decide +kernel
theorem dX6_server_101 : decode cX6_server 101 = .ok (.getfield 74, 3) := by decide +kernel
theorem dX6_server_104 : decode cX6_server 104 = .ok (.iload_n 1, 1) := by decide +kernel
theorem dX6_server_105 : decode cX6_server 105 = .ok (.baload, 1) := by decide +kernel
theorem dX6_server_106 : decode cX6_server 106 = .ok (.ifCond .eq 24, 3) := by decide +kernel
theorem dX6_server_109 : decode cX6_server 109 = .ok (.iload_n 3, 1) := by decide +kernel
theorem dX6_server_110 : decode cX6_server 110 = .ok (.aload_n 0, 1) := by decide +kernel
theorem dX6_server_111 : decode cX6_server 111 = .ok (.getfield 53, 3) := by decide +kernel
theorem dX6_server_114 : decode cX6_server 114 = .ok (.bipush 16, 2) := by decide +kernel
theorem dX6_server_116 : decode cX6_server 116 = .ok (.iload_n 1, 1) := by decide +kernel
theorem dX6_server_117 : decode cX6_server 117 = .ok (.imul, 1) := by decide +kernel
theorem dX6_server_118 : decode cX6_server 118 = .ok (.iload 4, 2) := by decide +kernel
theorem dX6_server_120 : decode cX6_server 120 = .ok (.iadd, 1) := by decide +kernel
theorem dX6_server_121 : decode cX6_server 121 = .ok (.iaload, 1) := by decide +kernel
theorem dX6_server_122 : decode cX6_server 122 = .ok (.iadd, 1) := by decide +kernel
theorem dX6_server_123 : decode cX6_server 123 = .ok (.istore_n 3, 1) := by decide +kernel
theorem dX6_server_124 : decode cX6_server 124 = .ok (.iinc 4 1, 3) := by decide +kernel
theorem dX6_server_127 : decode cX6_server 127 = .ok (.goto (-34), 3) := by decide +kernel
theorem dX6_server_130 : decode cX6_server 130 = .ok (.iload_n 3, 1) := by decide +kernel
theorem dX6_server_131 : decode cX6_server 131 = .ok (.ireturn, 1) := by decide +kernel
theorem dX6_server_132 : decode cX6_server 132 = .ok (.iconst (-1), 1) := by decide +kernel
theorem dX6_server_133 : decode cX6_server 133 = .ok (.ireturn, 1) := by decide +kernel
theorem dX6_bucket_0 : decode cX6_bucket 0 = .ok (.aload_n 0, 1) := by decide +kernel
theorem dX6_bucket_1 : decode cX6_bucket 1 = .ok (.iload_n 1, 1) := by decide +kernel
theorem dX6_bucket_2 : decode cX6_bucket 2 = .ok (.invokevirtual 201, 3) := by decide +kernel
theorem dX6_bucket_5 : decode cX6_bucket 5 = .ok (.ifCond .eq 13, 3) := by decide +kernel
theorem dX6_bucket_8 : decode cX6_bucket 8 = .ok (.iload_n 2, 1) := by decide +kernel
theorem dX6_bucket_9 : decode cX6_bucket 9 = .ok (.iconst 0, 1) := by decide +kernel
theorem dX6_bucket_10 : decode cX6_bucket 10 = .ok (.bipush 7, 2) := by decide +kernel
theorem dX6_bucket_12 : decode cX6_bucket 12 = .ok (.invokestatic 152, 3) := by decide +kernel
theorem dX6_bucket_15 : decode cX6_bucket 15 = .ok (.ifCond .ne 5, 3) := by decide +kernel
theorem dX6_bucket_18 : decode cX6_bucket 18 = .ok (.iconst (-1), 1) := by decide +kernel
theorem dX6_bucket_19 : decode cX6_bucket 19 = .ok (.ireturn, 1) := by decide +kernel
theorem dX6_bucket_20 : decode cX6_bucket 20 = .ok (.aload_n 0, 1) := by decide +kernel
theorem dX6_bucket_21 : decode cX6_bucket 21 = .ok (.iload_n 1, 1) := by decide +kernel
theorem dX6_bucket_22 : decode cX6_bucket 22 = .ok (.invokevirtual 246, 3) := by decide +kernel
theorem dX6_bucket_25 : decode cX6_bucket 25 = .ok (.iload_n 2, 1) := by decide +kernel
theorem dX6_bucket_26 : decode cX6_bucket 26 = .ok (.iadd, 1) := by decide +kernel
theorem dX6_bucket_27 : decode cX6_bucket 27 = .ok (.istore 4, 2) := by decide +kernel
theorem dX6_bucket_29 : decode cX6_bucket 29 = .ok (.iload_n 3, 1) := by decide +kernel
theorem dX6_bucket_30 : decode cX6_bucket 30 = .ok (.bipush 10, 2) := by decide +kernel
theorem dX6_bucket_32 : decode cX6_bucket 32 = .ok (.bipush 15, 2) := by decide +kernel
theorem dX6_bucket_34 : decode cX6_bucket 34 = .ok (.invokestatic 152, 3) := by decide +kernel
theorem dX6_bucket_37 : decode cX6_bucket 37 = .ok (.ifCond .eq 19, 3) := by decide +kernel
theorem dX6_bucket_40 : decode cX6_bucket 40 = .ok (.aload_n 0, 1) := by decide +kernel
theorem dX6_bucket_41 : decode cX6_bucket 41 = .ok (.getfield 68, 3) := by decide +kernel
theorem dX6_bucket_44 : decode cX6_bucket 44 = .ok (.bipush 6, 2) := by decide +kernel
theorem dX6_bucket_46 : decode cX6_bucket 46 = .ok (.iload 4, 2) := by decide +kernel
theorem dX6_bucket_48 : decode cX6_bucket 48 = .ok (.imul, 1) := by decide +kernel
theorem dX6_bucket_49 : decode cX6_bucket 49 = .ok (.iload_n 3, 1) := by decide +kernel
theorem dX6_bucket_50 : decode cX6_bucket 50 = .ok (.iadd, 1) := by decide +kernel
theorem dX6_bucket_51 : decode cX6_bucket 51 = .ok (.bipush 10, 2) := by decide +kernel
theorem dX6_bucket_53 : decode cX6_bucket 53 = .ok (.isub, 1) := by decide +kernel
theorem dX6_bucket_54 : decode cX6_bucket 54 = .ok (.iaload, 1) := by decide +kernel
theorem dX6_bucket_55 : decode cX6_bucket 55 = .ok (.ireturn, 1) := by decide +kernel
theorem dX6_bucket_56 : decode cX6_bucket 56 = .ok (.iload_n 3, 1) := by decide +kernel
theorem dX6_bucket_57 : decode cX6_bucket 57 = .ok (.bipush 20, 2) := by decide +kernel
theorem dX6_bucket_59 : decode cX6_bucket 59 = .ok (.bipush 25, 2) := by decide +kernel
theorem dX6_bucket_61 : decode cX6_bucket 61 = .ok (.invokestatic 152, 3) := by decide +kernel
theorem dX6_bucket_64 : decode cX6_bucket 64 = .ok (.ifCond .eq 19, 3) := by decide +kernel
theorem dX6_bucket_67 : decode cX6_bucket 67 = .ok (.aload_n 0, 1) := by decide +kernel
theorem dX6_bucket_68 : decode cX6_bucket 68 = .ok (.getfield 71, 3) := by decide +kernel
theorem dX6_bucket_71 : decode cX6_bucket 71 = .ok (.bipush 6, 2) := by decide +kernel
theorem dX6_bucket_73 : decode cX6_bucket 73 = .ok (.iload 4, 2) := by decide +kernel
theorem dX6_bucket_75 : decode cX6_bucket 75 = .ok (.imul, 1) := by decide +kernel
theorem dX6_bucket_76 : decode cX6_bucket 76 = .ok (.iload_n 3, 1) := by decide +kernel
theorem dX6_bucket_77 : decode cX6_bucket 77 = .ok (.iadd, 1) := by decide +kernel
theorem dX6_bucket_78 : decode cX6_bucket 78 = .ok (.bipush 20, 2) := by decide +kernel
theorem dX6_bucket_80 : decode cX6_bucket 80 = .ok (.isub, 1) := by decide +kernel
theorem dX6_bucket_81 : decode cX6_bucket 81 = .ok (.iaload, 1) := by decide +kernel
theorem dX6_bucket_82 : decode cX6_bucket 82 = .ok (.ireturn, 1) := by decide +kernel
theorem dX6_bucket_83 : decode cX6_bucket 83 = .ok (.iload_n 3, 1) := by decide +kernel
theorem dX6_bucket_84 : decode cX6_bucket 84 = .ok (.tableswitch 64 0 3 #[32, 40, 48, 56], 32) := by decide +kernel
theorem dX6_bucket_116 : decode cX6_bucket 116 = .ok (.aload_n 0, 1) := by decide +kernel
theorem dX6_bucket_117 : decode cX6_bucket 117 = .ok (.getfield 41, 3) := by decide +kernel
theorem dX6_bucket_120 : decode cX6_bucket 120 = .ok (.iload 4, 2) := by decide +kernel
theorem dX6_bucket_122 : decode cX6_bucket 122 = .ok (.iaload, 1) := by decide +kernel
theorem dX6_bucket_123 : decode cX6_bucket 123 = .ok (.ireturn, 1) := by decide +kernel
theorem dX6_bucket_124 : decode cX6_bucket 124 = .ok (.aload_n 0, 1) := by decide +kernel
theorem dX6_bucket_125 : decode cX6_bucket 125 = .ok (.getfield 44, 3) := by decide +kernel
theorem dX6_bucket_128 : decode cX6_bucket 128 = .ok (.iload 4, 2) := by decide +kernel
theorem dX6_bucket_130 : decode cX6_bucket 130 = .ok (.iaload, 1) := by decide +kernel
theorem dX6_bucket_131 : decode cX6_bucket 131 = .ok (.ireturn, 1) := by decide +kernel
theorem dX6_bucket_132 : decode cX6_bucket 132 = .ok (.aload_n 0, 1) := by decide +kernel
theorem dX6_bucket_133 : decode cX6_bucket 133 = .ok (.getfield 47, 3) := by decide +kernel
theorem dX6_bucket_136 : decode cX6_bucket 136 = .ok (.iload 4, 2) := by decide +kernel
theorem dX6_bucket_138 : decode cX6_bucket 138 = .ok (.iaload, 1) := by decide +kernel
theorem dX6_bucket_139 : decode cX6_bucket 139 = .ok (.ireturn, 1) := by decide +kernel
theorem dX6_bucket_140 : decode cX6_bucket 140 = .ok (.aload_n 0, 1) := by decide +kernel
theorem dX6_bucket_141 : decode cX6_bucket 141 = .ok (.getfield 53, 3) := by decide +kernel
theorem dX6_bucket_144 : decode cX6_bucket 144 = .ok (.iload 4, 2) := by decide +kernel
theorem dX6_bucket_146 : decode cX6_bucket 146 = .ok (.iaload, 1) := by decide +kernel
theorem dX6_bucket_147 : decode cX6_bucket 147 = .ok (.ireturn, 1) := by decide +kernel
theorem dX6_bucket_148 : decode cX6_bucket 148 = .ok (.iconst (-1), 1) := by decide +kernel
theorem dX6_bucket_149 : decode cX6_bucket 149 = .ok (.ireturn, 1) := by decide +kernel
theorem dX6_value_0 : decode cX6_value 0 = .ok (.aload_n 0, 1) := by decide +kernel
theorem dX6_value_1 : decode cX6_value 1 = .ok (.iload_n 1, 1) := by decide +kernel
theorem dX6_value_2 : decode cX6_value 2 = .ok (.invokevirtual 201, 3) := by decide +kernel
theorem dX6_value_5 : decode cX6_value 5 = .ok (.ifCond .eq 38, 3) := by decide +kernel
theorem dX6_value_8 : decode cX6_value 8 = .ok (.iload_n 2, 1) := by decide +kernel
theorem dX6_value_9 : decode cX6_value 9 = .ok (.iconst 0, 1) := by decide +kernel
theorem dX6_value_10 : decode cX6_value 10 = .ok (.bipush 31, 2) := by decide +kernel
theorem dX6_value_12 : decode cX6_value 12 = .ok (.invokestatic 152, 3) := by decide +kernel
theorem dX6_value_15 : decode cX6_value 15 = .ok (.ifCond .eq 28, 3) := by decide +kernel
theorem dX6_value_18 : decode cX6_value 18 = .ok (.aload_n 0, 1) := by decide +kernel
theorem dX6_value_19 : decode cX6_value 19 = .ok (.getfield 50, 3) := by decide +kernel
theorem dX6_value_22 : decode cX6_value 22 = .ok (.iconst 4, 1) := by decide +kernel
theorem dX6_value_23 : decode cX6_value 23 = .ok (.aload_n 0, 1) := by decide +kernel
theorem dX6_value_24 : decode cX6_value 24 = .ok (.iload_n 1, 1) := by decide +kernel
theorem dX6_value_25 : decode cX6_value 25 = .ok (.invokevirtual 246, 3) := by decide +kernel
theorem dX6_value_28 : decode cX6_value 28 = .ok (.iload_n 2, 1) := by decide +kernel
theorem dX6_value_29 : decode cX6_value 29 = .ok (.bipush 8, 2) := by decide +kernel
theorem dX6_value_31 : decode cX6_value 31 = .ok (.irem, 1) := by decide +kernel
theorem dX6_value_32 : decode cX6_value 32 = .ok (.iadd, 1) := by decide +kernel
theorem dX6_value_33 : decode cX6_value 33 = .ok (.imul, 1) := by decide +kernel
theorem dX6_value_34 : decode cX6_value 34 = .ok (.iload_n 2, 1) := by decide +kernel
theorem dX6_value_35 : decode cX6_value 35 = .ok (.bipush 8, 2) := by decide +kernel
theorem dX6_value_37 : decode cX6_value 37 = .ok (.idiv, 1) := by decide +kernel
theorem dX6_value_38 : decode cX6_value 38 = .ok (.iadd, 1) := by decide +kernel
theorem dX6_value_39 : decode cX6_value 39 = .ok (.laload, 1) := by decide +kernel
theorem dX6_value_40 : decode cX6_value 40 = .ok (.goto 4, 3) := by decide +kernel
theorem dX6_value_43 : decode cX6_value 43 = .ok (.lconst 0, 1) := by decide +kernel
theorem dX6_value_44 : decode cX6_value 44 = .ok (.lreturn, 1) := by decide +kernel
theorem dX6_record_0 : decode cX6_record 0 = .ok (.aload_n 0, 1) := by decide +kernel
theorem dX6_record_1 : decode cX6_record 1 = .ok (.iload_n 1, 1) := by decide +kernel
theorem dX6_record_2 : decode cX6_record 2 = .ok (.invokevirtual 201, 3) := by decide +kernel
theorem dX6_record_5 : decode cX6_record 5 = .ok (.ifCond .eq 13, 3) := by decide +kernel
theorem dX6_record_8 : decode cX6_record 8 = .ok (.iload_n 2, 1) := by decide +kernel
theorem dX6_record_9 : decode cX6_record 9 = .ok (.iconst 0, 1) := by decide +kernel
theorem dX6_record_10 : decode cX6_record 10 = .ok (.bipush 7, 2) := by decide +kernel
theorem dX6_record_12 : decode cX6_record 12 = .ok (.invokestatic 152, 3) := by decide +kernel
theorem dX6_record_15 : decode cX6_record 15 = .ok (.ifCond .ne 5, 3) := by decide +kernel
theorem dX6_record_18 : decode cX6_record 18 = .ok (.iconst (-1), 1) := by decide +kernel
theorem dX6_record_19 : decode cX6_record 19 = .ok (.ireturn, 1) := by decide +kernel
theorem dX6_record_20 : decode cX6_record 20 = .ok (.aload_n 0, 1) := by decide +kernel
theorem dX6_record_21 : decode cX6_record 21 = .ok (.iload_n 1, 1) := by decide +kernel
theorem dX6_record_22 : decode cX6_record 22 = .ok (.invokevirtual 246, 3) := by decide +kernel
theorem dX6_record_25 : decode cX6_record 25 = .ok (.iload_n 2, 1) := by decide +kernel
theorem dX6_record_26 : decode cX6_record 26 = .ok (.iadd, 1) := by decide +kernel
theorem dX6_record_27 : decode cX6_record 27 = .ok (.istore 5, 2) := by decide +kernel
theorem dX6_record_29 : decode cX6_record 29 = .ok (.iload_n 3, 1) := by decide +kernel
theorem dX6_record_30 : decode cX6_record 30 = .ok (.iconst 0, 1) := by decide +kernel
theorem dX6_record_31 : decode cX6_record 31 = .ok (.aload_n 0, 1) := by decide +kernel
theorem dX6_record_32 : decode cX6_record 32 = .ok (.getfield 53, 3) := by decide +kernel
theorem dX6_record_35 : decode cX6_record 35 = .ok (.iload 5, 2) := by decide +kernel
theorem dX6_record_37 : decode cX6_record 37 = .ok (.iaload, 1) := by decide +kernel
theorem dX6_record_38 : decode cX6_record 38 = .ok (.iconst 1, 1) := by decide +kernel
theorem dX6_record_39 : decode cX6_record 39 = .ok (.isub, 1) := by decide +kernel
theorem dX6_record_40 : decode cX6_record 40 = .ok (.invokestatic 152, 3) := by decide +kernel
theorem dX6_record_43 : decode cX6_record 43 = .ok (.ifCond .ne 5, 3) := by decide +kernel
theorem dX6_record_46 : decode cX6_record 46 = .ok (.iconst (-1), 1) := by decide +kernel
theorem dX6_record_47 : decode cX6_record 47 = .ok (.ireturn, 1) := by decide +kernel
theorem dX6_record_48 : decode cX6_record 48 = .ok (.bipush 12, 2) := by decide +kernel
theorem dX6_record_50 : decode cX6_record 50 = .ok (.iload 5, 2) := by decide +kernel
theorem dX6_record_52 : decode cX6_record 52 = .ok (.imul, 1) := by decide +kernel
theorem dX6_record_53 : decode cX6_record 53 = .ok (.iload_n 3, 1) := by decide +kernel
theorem dX6_record_54 : decode cX6_record 54 = .ok (.iadd, 1) := by decide +kernel
theorem dX6_record_55 : decode cX6_record 55 = .ok (.istore 6, 2) := by decide +kernel
theorem dX6_record_57 : decode cX6_record 57 = .ok (.iload 4, 2) := by decide +kernel
theorem dX6_record_59 : decode cX6_record 59 = .ok (.ifCond .ne 13, 3) := by decide +kernel
theorem dX6_record_62 : decode cX6_record 62 = .ok (.aload_n 0, 1) := by decide +kernel
theorem dX6_record_63 : decode cX6_record 63 = .ok (.getfield 56, 3) := by decide +kernel
theorem dX6_record_66 : decode cX6_record 66 = .ok (.iload 6, 2) := by decide +kernel
theorem dX6_record_68 : decode cX6_record 68 = .ok (.iaload, 1) := by decide +kernel
theorem dX6_record_69 : decode cX6_record 69 = .ok (.goto 36, 3) := by decide +kernel
theorem dX6_record_72 : decode cX6_record 72 = .ok (.iload 4, 2) := by decide +kernel
theorem dX6_record_74 : decode cX6_record 74 = .ok (.iconst 1, 1) := by decide +kernel
theorem dX6_record_75 : decode cX6_record 75 = .ok (.if_icmp .ne 13, 3) := by decide +kernel
theorem dX6_record_78 : decode cX6_record 78 = .ok (.aload_n 0, 1) := by decide +kernel
theorem dX6_record_79 : decode cX6_record 79 = .ok (.getfield 59, 3) := by decide +kernel
theorem dX6_record_82 : decode cX6_record 82 = .ok (.iload 6, 2) := by decide +kernel
theorem dX6_record_84 : decode cX6_record 84 = .ok (.iaload, 1) := by decide +kernel
theorem dX6_record_85 : decode cX6_record 85 = .ok (.goto 20, 3) := by decide +kernel
theorem dX6_record_88 : decode cX6_record 88 = .ok (.iload 4, 2) := by decide +kernel
theorem dX6_record_90 : decode cX6_record 90 = .ok (.iconst 2, 1) := by decide +kernel
theorem dX6_record_91 : decode cX6_record 91 = .ok (.if_icmp .ne 13, 3) := by decide +kernel
theorem dX6_record_94 : decode cX6_record 94 = .ok (.aload_n 0, 1) := by decide +kernel
theorem dX6_record_95 : decode cX6_record 95 = .ok (.getfield 62, 3) := by decide +kernel
theorem dX6_record_98 : decode cX6_record 98 = .ok (.iload 6, 2) := by decide +kernel
theorem dX6_record_100 : decode cX6_record 100 = .ok (.iaload, 1) := by decide +kernel
theorem dX6_record_101 : decode cX6_record 101 = .ok (.goto 4, 3) := by decide +kernel
theorem dX6_record_104 : decode cX6_record 104 = .ok (.iconst (-1), 1) := by decide +kernel
theorem dX6_record_105 : decode cX6_record 105 = .ok (.ireturn, 1) := by decide +kernel
theorem dX6_client_0 : decode cX6_client 0 = .ok (.iload_n 1, 1) := by decide +kernel
theorem dX6_client_1 : decode cX6_client 1 = .ok (.invokestatic 172, 3) := by decide +kernel
theorem dX6_client_4 : decode cX6_client 4 = .ok (.ifCond .ne 5, 3) := by decide +kernel
theorem dX6_client_7 : decode cX6_client 7 = .ok (.iconst (-1), 1) := by decide +kernel
theorem dX6_client_8 : decode cX6_client 8 = .ok (.ireturn, 1) := by decide +kernel
theorem dX6_client_9 : decode cX6_client 9 = .ok (.iload_n 2, 1) := by decide +kernel
theorem dX6_client_10 : decode cX6_client 10 = .ok (.bipush 10, 2) := by decide +kernel
theorem dX6_client_12 : decode cX6_client 12 = .ok (.bipush 17, 2) := by decide +kernel
theorem dX6_client_14 : decode cX6_client 14 = .ok (.invokestatic 152, 3) := by decide +kernel
theorem dX6_client_17 : decode cX6_client 17 = .ok (.ifCond .eq 18, 3) := by decide +kernel
theorem dX6_client_20 : decode cX6_client 20 = .ok (.aload_n 0, 1) := by decide +kernel
theorem dX6_client_21 : decode cX6_client 21 = .ok (.getfield 19, 3) := by decide +kernel
theorem dX6_client_24 : decode cX6_client 24 = .ok (.bipush 8, 2) := by decide +kernel
theorem dX6_client_26 : decode cX6_client 26 = .ok (.iload_n 1, 1) := by decide +kernel
theorem dX6_client_27 : decode cX6_client 27 = .ok (.imul, 1) := by decide +kernel
theorem dX6_client_28 : decode cX6_client 28 = .ok (.iload_n 2, 1) := by decide +kernel
theorem dX6_client_29 : decode cX6_client 29 = .ok (.iadd, 1) := by decide +kernel
theorem dX6_client_30 : decode cX6_client 30 = .ok (.bipush 10, 2) := by decide +kernel
theorem dX6_client_32 : decode cX6_client 32 = .ok (.isub, 1) := by decide +kernel
theorem dX6_client_33 : decode cX6_client 33 = .ok (.iaload, 1) := by decide +kernel
theorem dX6_client_34 : decode cX6_client 34 = .ok (.ireturn, 1) := by decide +kernel
theorem dX6_client_35 : decode cX6_client 35 = .ok (.iload_n 2, 1) := by decide +kernel
theorem dX6_client_36 : decode cX6_client 36 = .ok (.tableswitch 92 0 5 #[40, 47, 54, 73, 80, 86], 40) := by decide +kernel
theorem dX6_client_76 : decode cX6_client 76 = .ok (.aload_n 0, 1) := by decide +kernel
theorem dX6_client_77 : decode cX6_client 77 = .ok (.getfield 7, 3) := by decide +kernel
theorem dX6_client_80 : decode cX6_client 80 = .ok (.iload_n 1, 1) := by decide +kernel
theorem dX6_client_81 : decode cX6_client 81 = .ok (.iaload, 1) := by decide +kernel
theorem dX6_client_82 : decode cX6_client 82 = .ok (.ireturn, 1) := by decide +kernel
theorem dX6_client_83 : decode cX6_client 83 = .ok (.aload_n 0, 1) := by decide +kernel
theorem dX6_client_84 : decode cX6_client 84 = .ok (.getfield 13, 3) := by decide +kernel
theorem dX6_client_87 : decode cX6_client 87 = .ok (.iload_n 1, 1) := by decide +kernel
theorem dX6_client_88 : decode cX6_client 88 = .ok (.iaload, 1) := by decide +kernel
theorem dX6_client_89 : decode cX6_client 89 = .ok (.ireturn, 1) := by decide +kernel
theorem dX6_client_90 : decode cX6_client 90 = .ok (.aload_n 0, 1) := by decide +kernel
theorem dX6_client_91 : decode cX6_client 91 = .ok (.aload_n 0, 1) := by decide +kernel
theorem dX6_client_92 : decode cX6_client 92 = .ok (.getfield 7, 3) := by decide +kernel
theorem dX6_client_95 : decode cX6_client 95 = .ok (.iload_n 1, 1) := by decide +kernel
theorem dX6_client_96 : decode cX6_client 96 = .ok (.iaload, 1) := by decide +kernel
theorem dX6_client_97 : decode cX6_client 97 = .ok (.invokevirtual 179, 3) := by decide +kernel
theorem dX6_client_100 : decode cX6_client 100 = .ok (.ifCond .eq 7, 3) := by decide +kernel
theorem dX6_client_103 : decode cX6_client 103 = .ok (.iconst 1, 1) := by decide +kernel
theorem dX6_client_104 : decode cX6_client 104 = .ok (.goto 4, 3) := by decide +kernel
theorem dX6_client_107 : decode cX6_client 107 = .ok (.iconst 0, 1) := by decide +kernel
theorem dX6_client_108 : decode cX6_client 108 = .ok (.ireturn, 1) := by decide +kernel
theorem dX6_client_109 : decode cX6_client 109 = .ok (.aload_n 0, 1) := by decide +kernel
theorem dX6_client_110 : decode cX6_client 110 = .ok (.getfield 16, 3) := by decide +kernel
theorem dX6_client_113 : decode cX6_client 113 = .ok (.iload_n 1, 1) := by decide +kernel
theorem dX6_client_114 : decode cX6_client 114 = .ok (.iaload, 1) := by decide +kernel
theorem dX6_client_115 : decode cX6_client 115 = .ok (.ireturn, 1) := by decide +kernel
theorem dX6_client_116 : decode cX6_client 116 = .ok (.aload_n 0, 1) := by decide +kernel
theorem dX6_client_117 : decode cX6_client 117 = .ok (.iload_n 1, 1) := by decide +kernel
theorem dX6_client_118 : decode cX6_client 118 = .ok (.invokevirtual 186, 3) := by decide +kernel
theorem dX6_client_121 : decode cX6_client 121 = .ok (.ireturn, 1) := by decide +kernel
theorem dX6_client_122 : decode cX6_client 122 = .ok (.aload_n 0, 1) := by decide +kernel
theorem dX6_client_123 : decode cX6_client 123 = .ok (.iload_n 1, 1) := by decide +kernel
theorem dX6_client_124 : decode cX6_client 124 = .ok (.invokevirtual 190, 3) := by decide +kernel
theorem dX6_client_127 : decode cX6_client 127 = .ok (.ireturn, 1) := by decide +kernel
theorem dX6_client_128 : decode cX6_client 128 = .ok (.iconst (-1), 1) := by decide +kernel
theorem dX6_client_129 : decode cX6_client 129 = .ok (.ireturn, 1) := by decide +kernel
theorem dX6_state_0 : decode cX6_state 0 = .ok (.aload_n 0, 1) := by decide +kernel
theorem dX6_state_1 : decode cX6_state 1 = .ok (.iload_n 1, 1) := by decide +kernel
theorem dX6_state_2 : decode cX6_state 2 = .ok (.iload_n 2, 1) := by decide +kernel
theorem dX6_state_3 : decode cX6_state 3 = .ok (.invokevirtual 197, 3) := by decide +kernel
theorem dX6_state_6 : decode cX6_state 6 = .ok (.ifCond .eq 19, 3) := by decide +kernel
theorem dX6_state_9 : decode cX6_state 9 = .ok (.aload_n 0, 1) := by decide +kernel
theorem dX6_state_10 : decode cX6_state 10 = .ok (.getfield 22, 3) := by decide +kernel
theorem dX6_state_13 : decode cX6_state 13 = .ok (.bipush 60, 2) := by decide +kernel
theorem dX6_state_15 : decode cX6_state 15 = .ok (.iload_n 1, 1) := by decide +kernel
theorem dX6_state_16 : decode cX6_state 16 = .ok (.imul, 1) := by decide +kernel
theorem dX6_state_17 : decode cX6_state 17 = .ok (.iload_n 2, 1) := by decide +kernel
theorem dX6_state_18 : decode cX6_state 18 = .ok (.iadd, 1) := by decide +kernel
theorem dX6_state_19 : decode cX6_state 19 = .ok (.iconst 1, 1) := by decide +kernel
theorem dX6_state_20 : decode cX6_state 20 = .ok (.isub, 1) := by decide +kernel
theorem dX6_state_21 : decode cX6_state 21 = .ok (.iaload, 1) := by decide +kernel
theorem dX6_state_22 : decode cX6_state 22 = .ok (.goto 4, 3) := by decide +kernel
theorem dX6_state_25 : decode cX6_state 25 = .ok (.iconst (-1), 1) := by decide +kernel
theorem dX6_state_26 : decode cX6_state 26 = .ok (.ireturn, 1) := by decide +kernel
theorem dX6_result_0 : decode cX6_result 0 = .ok (.aload_n 0, 1) := by decide +kernel
theorem dX6_result_1 : decode cX6_result 1 = .ok (.iload_n 1, 1) := by decide +kernel
theorem dX6_result_2 : decode cX6_result 2 = .ok (.iload_n 2, 1) := by decide +kernel
theorem dX6_result_3 : decode cX6_result 3 = .ok (.invokevirtual 197, 3) := by decide +kernel
theorem dX6_result_6 : decode cX6_result 6 = .ok (.ifCond .eq 36, 3) := by decide +kernel
theorem dX6_result_9 : decode cX6_result 9 = .ok (.aload_n 0, 1) := by decide +kernel
theorem dX6_result_10 : decode cX6_result 10 = .ok (.getfield 22, 3) := by decide +kernel
theorem dX6_result_13 : decode cX6_result 13 = .ok (.bipush 60, 2) := by decide +kernel
theorem dX6_result_15 : decode cX6_result 15 = .ok (.iload_n 1, 1) := by decide +kernel
theorem dX6_result_16 : decode cX6_result 16 = .ok (.imul, 1) := by decide +kernel
theorem dX6_result_17 : decode cX6_result 17 = .ok (.iload_n 2, 1) := by decide +kernel
theorem dX6_result_18 : decode cX6_result 18 = .ok (.iadd, 1) := by decide +kernel
theorem dX6_result_19 : decode cX6_result 19 = .ok (.iconst 1, 1) := by decide +kernel
theorem dX6_result_20 : decode cX6_result 20 = .ok (.isub, 1) := by decide +kernel
theorem dX6_result_21 : decode cX6_result 21 = .ok (.iaload, 1) := by decide +kernel
theorem dX6_result_22 : decode cX6_result 22 = .ok (.iconst 1, 1) := by decide +kernel
theorem dX6_result_23 : decode cX6_result 23 = .ok (.if_icmp .ne 19, 3) := by decide +kernel
theorem dX6_result_26 : decode cX6_result 26 = .ok (.aload_n 0, 1) := by decide +kernel
theorem dX6_result_27 : decode cX6_result 27 = .ok (.getfield 25, 3) := by decide +kernel
theorem dX6_result_30 : decode cX6_result 30 = .ok (.bipush 60, 2) := by decide +kernel
theorem dX6_result_32 : decode cX6_result 32 = .ok (.iload_n 1, 1) := by decide +kernel
theorem dX6_result_33 : decode cX6_result 33 = .ok (.imul, 1) := by decide +kernel
theorem dX6_result_34 : decode cX6_result 34 = .ok (.iload_n 2, 1) := by decide +kernel
theorem dX6_result_35 : decode cX6_result 35 = .ok (.iadd, 1) := by decide +kernel
theorem dX6_result_36 : decode cX6_result 36 = .ok (.iconst 1, 1) := by decide +kernel
theorem dX6_result_37 : decode cX6_result 37 = .ok (.isub, 1) := by decide +kernel
theorem dX6_result_38 : decode cX6_result 38 = .ok (.laload, 1) := by decide +kernel
theorem dX6_result_39 : decode cX6_result 39 = .ok (.goto 4, 3) := by decide +kernel
theorem dX6_result_42 : decode cX6_result 42 = .ok (.lconst 0, 1) := by decide +kernel
theorem dX6_result_43 : decode cX6_result 43 = .ok (.lreturn, 1) := by decide +kernel
theorem dX6_letter__0 : decode cX6_letter_ 0 = .ok (.iload_n 1, 1) := by decide +kernel
theorem dX6_letter__1 : decode cX6_letter_ 1 = .ok (.iconst 0, 1) := by decide +kernel
theorem dX6_letter__2 : decode cX6_letter_ 2 = .ok (.aload_n 0, 1) := by decide +kernel
theorem dX6_letter__3 : decode cX6_letter_ 3 = .ok (.getfield 162, 3) := by decide +kernel
theorem dX6_letter__6 : decode cX6_letter_ 6 = .ok (.iconst 1, 1) := by decide +kernel
theorem dX6_letter__7 : decode cX6_letter_ 7 = .ok (.isub, 1) := by decide +kernel
theorem dX6_letter__8 : decode cX6_letter_ 8 = .ok (.invokestatic 152, 3) := by decide +kernel
theorem dX6_letter__11 : decode cX6_letter_ 11 = .ok (.ifCond .ne 5, 3) := by decide +kernel
theorem dX6_letter__14 : decode cX6_letter_ 14 = .ok (.iconst (-1), 1) := by decide +kernel
theorem dX6_letter__15 : decode cX6_letter_ 15 = .ok (.ireturn, 1) := by decide +kernel
theorem dX6_letter__16 : decode cX6_letter_ 16 = .ok (.aload_n 0, 1) := by decide +kernel
theorem dX6_letter__17 : decode cX6_letter_ 17 = .ok (.getfield 136, 3) := by decide +kernel
theorem dX6_letter__20 : decode cX6_letter_ 20 = .ok (.iload_n 1, 1) := by decide +kernel
theorem dX6_letter__21 : decode cX6_letter_ 21 = .ok (.iaload, 1) := by decide +kernel
theorem dX6_letter__22 : decode cX6_letter_ 22 = .ok (.istore_n 3, 1) := by decide +kernel
theorem dX6_letter__23 : decode cX6_letter_ 23 = .ok (.aload_n 0, 1) := by decide +kernel
theorem dX6_letter__24 : decode cX6_letter_ 24 = .ok (.getfield 84, 3) := by decide +kernel
theorem dX6_letter__27 : decode cX6_letter_ 27 = .ok (.iload_n 3, 1) := by decide +kernel
theorem dX6_letter__28 : decode cX6_letter_ 28 = .ok (.iaload, 1) := by decide +kernel
theorem dX6_letter__29 : decode cX6_letter_ 29 = .ok (.istore 4, 2) := by decide +kernel
theorem dX6_letter__31 : decode cX6_letter_ 31 = .ok (.iload_n 2, 1) := by decide +kernel
theorem dX6_letter__32 : decode cX6_letter_ 32 = .ok (.tableswitch 94 0 5 #[40, 43, 50, 57, 64, 71], 40) := by decide +kernel
theorem dX6_letter__72 : decode cX6_letter_ 72 = .ok (.iload 4, 2) := by decide +kernel
theorem dX6_letter__74 : decode cX6_letter_ 74 = .ok (.ireturn, 1) := by decide +kernel
theorem dX6_letter__75 : decode cX6_letter_ 75 = .ok (.aload_n 0, 1) := by decide +kernel
theorem dX6_letter__76 : decode cX6_letter_ 76 = .ok (.getfield 87, 3) := by decide +kernel
theorem dX6_letter__79 : decode cX6_letter_ 79 = .ok (.iload_n 3, 1) := by decide +kernel
theorem dX6_letter__80 : decode cX6_letter_ 80 = .ok (.iaload, 1) := by decide +kernel
theorem dX6_letter__81 : decode cX6_letter_ 81 = .ok (.ireturn, 1) := by decide +kernel
theorem dX6_letter__82 : decode cX6_letter_ 82 = .ok (.aload_n 0, 1) := by decide +kernel
theorem dX6_letter__83 : decode cX6_letter_ 83 = .ok (.getfield 90, 3) := by decide +kernel
theorem dX6_letter__86 : decode cX6_letter_ 86 = .ok (.iload_n 3, 1) := by decide +kernel
theorem dX6_letter__87 : decode cX6_letter_ 87 = .ok (.iaload, 1) := by decide +kernel
theorem dX6_letter__88 : decode cX6_letter_ 88 = .ok (.ireturn, 1) := by decide +kernel
theorem dX6_letter__89 : decode cX6_letter_ 89 = .ok (.aload_n 0, 1) := by decide +kernel
theorem dX6_letter__90 : decode cX6_letter_ 90 = .ok (.getfield 93, 3) := by decide +kernel
theorem dX6_letter__93 : decode cX6_letter_ 93 = .ok (.iload_n 3, 1) := by decide +kernel
theorem dX6_letter__94 : decode cX6_letter_ 94 = .ok (.iaload, 1) := by decide +kernel
theorem dX6_letter__95 : decode cX6_letter_ 95 = .ok (.ireturn, 1) := by decide +kernel
theorem dX6_letter__96 : decode cX6_letter_ 96 = .ok (.aload_n 0, 1) := by decide +kernel
theorem dX6_letter__97 : decode cX6_letter_ 97 = .ok (.getfield 96, 3) := by decide +kernel
theorem dX6_letter__100 : decode cX6_letter_ 100 = .ok (.iload_n 3, 1) := by decide +kernel
theorem dX6_letter__101 : decode cX6_letter_ 101 = .ok (.iaload, 1) := by decide +kernel
theorem dX6_letter__102 : decode cX6_letter_ 102 = .ok (.ireturn, 1) := by decide +kernel
theorem dX6_letter__103 : decode cX6_letter_ 103 = .ok (.iload 4, 2) := by decide +kernel
theorem dX6_letter__105 : decode cX6_letter_ 105 = .ok (.iconst 4, 1) := by decide +kernel
theorem dX6_letter__106 : decode cX6_letter_ 106 = .ok (.if_icmp .eq 9, 3) := by decide +kernel
theorem dX6_letter__109 : decode cX6_letter_ 109 = .ok (.iload 4, 2) := by decide +kernel
theorem dX6_letter__111 : decode cX6_letter_ 111 = .ok (.iconst 5, 1) := by decide +kernel
theorem dX6_letter__112 : decode cX6_letter_ 112 = .ok (.if_icmp .ne 7, 3) := by decide +kernel
theorem dX6_letter__115 : decode cX6_letter_ 115 = .ok (.iconst 0, 1) := by decide +kernel
theorem dX6_letter__116 : decode cX6_letter_ 116 = .ok (.goto 9, 3) := by decide +kernel
theorem dX6_letter__119 : decode cX6_letter_ 119 = .ok (.aload_n 0, 1) := by decide +kernel
theorem dX6_letter__120 : decode cX6_letter_ 120 = .ok (.getfield 99, 3) := by decide +kernel
theorem dX6_letter__123 : decode cX6_letter_ 123 = .ok (.iload_n 3, 1) := by decide +kernel
theorem dX6_letter__124 : decode cX6_letter_ 124 = .ok (.iaload, 1) := by decide +kernel
theorem dX6_letter__125 : decode cX6_letter_ 125 = .ok (.ireturn, 1) := by decide +kernel
theorem dX6_letter__126 : decode cX6_letter_ 126 = .ok (.iconst (-1), 1) := by decide +kernel
theorem dX6_letter__127 : decode cX6_letter_ 127 = .ok (.ireturn, 1) := by decide +kernel
theorem dX6_count_0 : decode cX6_count 0 = .ok (.iload_n 1, 1) := by decide +kernel
theorem dX6_count_1 : decode cX6_count 1 = .ok (.tableswitch 60 0 4 #[35, 40, 45, 50, 55], 35) := by decide +kernel
theorem dX6_count_36 : decode cX6_count 36 = .ok (.aload_n 0, 1) := by decide +kernel
theorem dX6_count_37 : decode cX6_count 37 = .ok (.getfield 162, 3) := by decide +kernel
theorem dX6_count_40 : decode cX6_count 40 = .ok (.ireturn, 1) := by decide +kernel
theorem dX6_count_41 : decode cX6_count 41 = .ok (.aload_n 0, 1) := by decide +kernel
theorem dX6_count_42 : decode cX6_count 42 = .ok (.getfield 165, 3) := by decide +kernel
theorem dX6_count_45 : decode cX6_count 45 = .ok (.ireturn, 1) := by decide +kernel
theorem dX6_count_46 : decode cX6_count 46 = .ok (.aload_n 0, 1) := by decide +kernel
theorem dX6_count_47 : decode cX6_count 47 = .ok (.getfield 225, 3) := by decide +kernel
theorem dX6_count_50 : decode cX6_count 50 = .ok (.ireturn, 1) := by decide +kernel
theorem dX6_count_51 : decode cX6_count 51 = .ok (.aload_n 0, 1) := by decide +kernel
theorem dX6_count_52 : decode cX6_count 52 = .ok (.getfield 204, 3) := by decide +kernel
theorem dX6_count_55 : decode cX6_count 55 = .ok (.ireturn, 1) := by decide +kernel
theorem dX6_count_56 : decode cX6_count 56 = .ok (.aload_n 0, 1) := by decide +kernel
theorem dX6_count_57 : decode cX6_count 57 = .ok (.getfield 156, 3) := by decide +kernel
theorem dX6_count_60 : decode cX6_count 60 = .ok (.ireturn, 1) := by decide +kernel
theorem dX6_count_61 : decode cX6_count 61 = .ok (.iconst (-1), 1) := by decide +kernel
theorem dX6_count_62 : decode cX6_count 62 = .ok (.ireturn, 1) := by decide +kernel

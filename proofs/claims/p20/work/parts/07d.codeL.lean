theorem dL_law_0 : decode cL_law 0 = .ok (.new 26, 3) := by decide +kernel
theorem dL_law_3 : decode cL_law 3 = .ok (.dup, 1) := by decide +kernel
theorem dL_law_4 : decode cL_law 4 = .ok (.invokespecial 64, 3) := by decide +kernel
theorem dL_law_7 : decode cL_law 7 = .ok (.astore_n 1, 1) := by decide +kernel
theorem dL_law_8 : decode cL_law 8 = .ok (.aload_n 1, 1) := by decide +kernel
theorem dL_law_9 : decode cL_law 9 = .ok (.aload_n 0, 1) := by decide +kernel
theorem dL_law_10 : decode cL_law 10 = .ok (.invokestatic 65, 3) := by decide +kernel
theorem dL_law_13 : decode cL_law 13 = .ok (.astore_n 2, 1) := by decide +kernel
theorem dL_law_14 : decode cL_law 14 = .ok (.aload_n 2, 1) := by decide +kernel
theorem dL_law_15 : decode cL_law 15 = .ok (.ifnonnull 5, 3) := by decide +kernel
theorem dL_law_18 : decode cL_law 18 = .ok (.iconst 0, 1) := by decide +kernel
theorem dL_law_19 : decode cL_law 19 = .ok (.ireturn, 1) := by decide +kernel
theorem dL_law_20 : decode cL_law 20 = .ok (.iconst 0, 1) := by decide +kernel
theorem dL_law_21 : decode cL_law 21 = .ok (.istore_n 3, 1) := by decide +kernel
theorem dL_law_22 : decode cL_law 22 = .ok (.iload_n 3, 1) := by decide +kernel
theorem dL_law_23 : decode cL_law 23 = .ok (.bipush 8, 2) := by decide +kernel
theorem dL_law_25 : decode cL_law 25 = .ok (.if_icmp .ge 840, 3) := by decide +kernel
theorem dL_law_28 : decode cL_law 28 = .ok (.aload_n 0, 1) := by decide +kernel
theorem dL_law_29 : decode cL_law 29 = .ok (.iload_n 3, 1) := by decide +kernel
theorem dL_law_30 : decode cL_law 30 = .ok (.invokestatic 56, 3) := by decide +kernel
theorem dL_law_33 : decode cL_law 33 = .ok (.sipush 347, 3) := by decide +kernel
theorem dL_law_36 : decode cL_law 36 = .ok (.iload_n 3, 1) := by decide +kernel
theorem dL_law_37 : decode cL_law 37 = .ok (.imul, 1) := by decide +kernel
theorem dL_law_38 : decode cL_law 38 = .ok (.iadd, 1) := by decide +kernel
theorem dL_law_39 : decode cL_law 39 = .ok (.istore 4, 2) := by decide +kernel
theorem dL_law_41 : decode cL_law 41 = .ok (.iconst 0, 1) := by decide +kernel
theorem dL_law_42 : decode cL_law 42 = .ok (.istore 5, 2) := by decide +kernel
theorem dL_law_44 : decode cL_law 44 = .ok (.iload 5, 2) := by decide +kernel
theorem dL_law_46 : decode cL_law 46 = .ok (.iconst 2, 1) := by decide +kernel
theorem dL_law_47 : decode cL_law 47 = .ok (.if_icmp .ge 33, 3) := by decide +kernel
theorem dL_law_50 : decode cL_law 50 = .ok (.aload_n 1, 1) := by decide +kernel
theorem dL_law_51 : decode cL_law 51 = .ok (.aload_n 2, 1) := by decide +kernel
theorem dL_law_52 : decode cL_law 52 = .ok (.iload 4, 2) := by decide +kernel
theorem dL_law_54 : decode cL_law 54 = .ok (.iconst 2, 1) := by decide +kernel
theorem dL_law_55 : decode cL_law 55 = .ok (.iload 5, 2) := by decide +kernel
theorem dL_law_57 : decode cL_law 57 = .ok (.imul, 1) := by decide +kernel
theorem dL_law_58 : decode cL_law 58 = .ok (.ishr, 1) := by decide +kernel
theorem dL_law_59 : decode cL_law 59 = .ok (.sipush 257, 3) := by decide +kernel
theorem dL_law_62 : decode cL_law 62 = .ok (.iload 5, 2) := by decide +kernel
theorem dL_law_64 : decode cL_law 64 = .ok (.imul, 1) := by decide +kernel
theorem dL_law_65 : decode cL_law 65 = .ok (.iadd, 1) := by decide +kernel
theorem dL_law_66 : decode cL_law 66 = .ok (.invokestatic 60, 3) := by decide +kernel
theorem dL_law_69 : decode cL_law 69 = .ok (.ifCond .ne 5, 3) := by decide +kernel
theorem dL_law_72 : decode cL_law 72 = .ok (.iconst 0, 1) := by decide +kernel
theorem dL_law_73 : decode cL_law 73 = .ok (.ireturn, 1) := by decide +kernel
theorem dL_law_74 : decode cL_law 74 = .ok (.iinc 5 1, 3) := by decide +kernel
theorem dL_law_77 : decode cL_law 77 = .ok (.goto (-33), 3) := by decide +kernel
theorem dL_law_80 : decode cL_law 80 = .ok (.aload_n 1, 1) := by decide +kernel
theorem dL_law_81 : decode cL_law 81 = .ok (.iconst 0, 1) := by decide +kernel
theorem dL_law_82 : decode cL_law 82 = .ok (.invokevirtual 69, 3) := by decide +kernel
theorem dL_law_85 : decode cL_law 85 = .ok (.istore 5, 2) := by decide +kernel
theorem dL_law_87 : decode cL_law 87 = .ok (.aload_n 1, 1) := by decide +kernel
theorem dL_law_88 : decode cL_law 88 = .ok (.iconst 1, 1) := by decide +kernel
theorem dL_law_89 : decode cL_law 89 = .ok (.invokevirtual 69, 3) := by decide +kernel
theorem dL_law_92 : decode cL_law 92 = .ok (.istore 6, 2) := by decide +kernel
theorem dL_law_94 : decode cL_law 94 = .ok (.aload_n 1, 1) := by decide +kernel
theorem dL_law_95 : decode cL_law 95 = .ok (.invokevirtual 72, 3) := by decide +kernel
theorem dL_law_98 : decode cL_law 98 = .ok (.istore 7, 2) := by decide +kernel
theorem dL_law_100 : decode cL_law 100 = .ok (.aload_n 1, 1) := by decide +kernel
theorem dL_law_101 : decode cL_law 101 = .ok (.iconst 4, 1) := by decide +kernel
theorem dL_law_102 : decode cL_law 102 = .ok (.invokevirtual 69, 3) := by decide +kernel
theorem dL_law_105 : decode cL_law 105 = .ok (.istore 8, 2) := by decide +kernel
theorem dL_law_107 : decode cL_law 107 = .ok (.iload 7, 2) := by decide +kernel
theorem dL_law_109 : decode cL_law 109 = .ok (.ifCond .lt 45, 3) := by decide +kernel
theorem dL_law_112 : decode cL_law 112 = .ok (.aload_n 1, 1) := by decide +kernel
theorem dL_law_113 : decode cL_law 113 = .ok (.iload 7, 2) := by decide +kernel
theorem dL_law_115 : decode cL_law 115 = .ok (.invokevirtual 34, 3) := by decide +kernel
theorem dL_law_118 : decode cL_law 118 = .ok (.ifCond .ne 34, 3) := by decide +kernel
theorem dL_law_121 : decode cL_law 121 = .ok (.aload_n 1, 1) := by decide +kernel
theorem dL_law_122 : decode cL_law 122 = .ok (.invokevirtual 75, 3) := by decide +kernel
theorem dL_law_125 : decode cL_law 125 = .ok (.ifCond .eq 27, 3) := by decide +kernel
theorem dL_law_128 : decode cL_law 128 = .ok (.iload 8, 2) := by decide +kernel
theorem dL_law_130 : decode cL_law 130 = .ok (.ifCond .lt 13, 3) := by decide +kernel
theorem dL_law_133 : decode cL_law 133 = .ok (.aload_n 1, 1) := by decide +kernel
theorem dL_law_134 : decode cL_law 134 = .ok (.iconst 4, 1) := by decide +kernel
theorem dL_law_135 : decode cL_law 135 = .ok (.invokevirtual 69, 3) := by decide +kernel
theorem dL_law_138 : decode cL_law 138 = .ok (.iload 8, 2) := by decide +kernel
theorem dL_law_140 : decode cL_law 140 = .ok (.if_icmp .ge 12, 3) := by decide +kernel
theorem dL_law_143 : decode cL_law 143 = .ok (.aload_n 1, 1) := by decide +kernel
theorem dL_law_144 : decode cL_law 144 = .ok (.iload 7, 2) := by decide +kernel
theorem dL_law_146 : decode cL_law 146 = .ok (.invokevirtual 34, 3) := by decide +kernel
theorem dL_law_149 : decode cL_law 149 = .ok (.ifCond .ne 5, 3) := by decide +kernel
theorem dL_law_152 : decode cL_law 152 = .ok (.iconst 0, 1) := by decide +kernel
theorem dL_law_153 : decode cL_law 153 = .ok (.ireturn, 1) := by decide +kernel
theorem dL_law_154 : decode cL_law 154 = .ok (.aload_n 1, 1) := by decide +kernel
theorem dL_law_155 : decode cL_law 155 = .ok (.invokevirtual 75, 3) := by decide +kernel
theorem dL_law_158 : decode cL_law 158 = .ok (.ifCond .ne 6, 3) := by decide +kernel
theorem dL_law_161 : decode cL_law 161 = .ok (.goto 698, 3) := by decide +kernel
theorem dL_law_164 : decode cL_law 164 = .ok (.iload 8, 2) := by decide +kernel
theorem dL_law_166 : decode cL_law 166 = .ok (.iload 4, 2) := by decide +kernel
theorem dL_law_168 : decode cL_law 168 = .ok (.iconst 3, 1) := by decide +kernel
theorem dL_law_169 : decode cL_law 169 = .ok (.ishr, 1) := by decide +kernel
theorem dL_law_170 : decode cL_law 170 = .ok (.bipush 30, 2) := by decide +kernel
theorem dL_law_172 : decode cL_law 172 = .ok (.invokestatic 19, 3) := by decide +kernel
theorem dL_law_175 : decode cL_law 175 = .ok (.iadd, 1) := by decide +kernel
theorem dL_law_176 : decode cL_law 176 = .ok (.istore 9, 2) := by decide +kernel
theorem dL_law_178 : decode cL_law 178 = .ok (.iload 5, 2) := by decide +kernel
theorem dL_law_180 : decode cL_law 180 = .ok (.iload 5, 2) := by decide +kernel
theorem dL_law_182 : decode cL_law 182 = .ok (.multianewarray 79 2, 4) := by decide +kernel
theorem dL_law_186 : decode cL_law 186 = .ok (.astore 10, 2) := by decide +kernel
theorem dL_law_188 : decode cL_law 188 = .ok (.iconst 0, 1) := by decide +kernel
theorem dL_law_189 : decode cL_law 189 = .ok (.istore 11, 2) := by decide +kernel
theorem dL_law_191 : decode cL_law 191 = .ok (.iload 11, 2) := by decide +kernel
theorem dL_law_193 : decode cL_law 193 = .ok (.iload 5, 2) := by decide +kernel
theorem dL_law_195 : decode cL_law 195 = .ok (.if_icmp .ge 156, 3) := by decide +kernel
theorem dL_law_198 : decode cL_law 198 = .ok (.aload_n 1, 1) := by decide +kernel
theorem dL_law_199 : decode cL_law 199 = .ok (.iload 11, 2) := by decide +kernel
theorem dL_law_201 : decode cL_law 201 = .ok (.iload 9, 2) := by decide +kernel
theorem dL_law_203 : decode cL_law 203 = .ok (.invokevirtual 80, 3) := by decide +kernel
theorem dL_law_206 : decode cL_law 206 = .ok (.aload_n 1, 1) := by decide +kernel
theorem dL_law_207 : decode cL_law 207 = .ok (.iload 11, 2) := by decide +kernel
theorem dL_law_209 : decode cL_law 209 = .ok (.iconst 2, 1) := by decide +kernel
theorem dL_law_210 : decode cL_law 210 = .ok (.invokevirtual 83, 3) := by decide +kernel
theorem dL_law_213 : decode cL_law 213 = .ok (.if_icmp .lt 16, 3) := by decide +kernel
theorem dL_law_216 : decode cL_law 216 = .ok (.aload_n 1, 1) := by decide +kernel
theorem dL_law_217 : decode cL_law 217 = .ok (.iload 11, 2) := by decide +kernel
theorem dL_law_219 : decode cL_law 219 = .ok (.iload 9, 2) := by decide +kernel
theorem dL_law_221 : decode cL_law 221 = .ok (.invokevirtual 80, 3) := by decide +kernel
theorem dL_law_224 : decode cL_law 224 = .ok (.iload 9, 2) := by decide +kernel
theorem dL_law_226 : decode cL_law 226 = .ok (.if_icmp .le 5, 3) := by decide +kernel
theorem dL_law_229 : decode cL_law 229 = .ok (.iconst 0, 1) := by decide +kernel
theorem dL_law_230 : decode cL_law 230 = .ok (.ireturn, 1) := by decide +kernel
theorem dL_law_231 : decode cL_law 231 = .ok (.iconst 0, 1) := by decide +kernel
theorem dL_law_232 : decode cL_law 232 = .ok (.istore 12, 2) := by decide +kernel
theorem dL_law_234 : decode cL_law 234 = .ok (.iload 12, 2) := by decide +kernel
theorem dL_law_236 : decode cL_law 236 = .ok (.iload 5, 2) := by decide +kernel
theorem dL_law_238 : decode cL_law 238 = .ok (.if_icmp .ge 94, 3) := by decide +kernel
theorem dL_law_241 : decode cL_law 241 = .ok (.aload 10, 2) := by decide +kernel
theorem dL_law_243 : decode cL_law 243 = .ok (.iload 11, 2) := by decide +kernel
theorem dL_law_245 : decode cL_law 245 = .ok (.aaload, 1) := by decide +kernel
theorem dL_law_246 : decode cL_law 246 = .ok (.iload 12, 2) := by decide +kernel
theorem dL_law_248 : decode cL_law 248 = .ok (.aload_n 1, 1) := by decide +kernel
theorem dL_law_249 : decode cL_law 249 = .ok (.iload 11, 2) := by decide +kernel
theorem dL_law_251 : decode cL_law 251 = .ok (.iload 12, 2) := by decide +kernel
theorem dL_law_253 : decode cL_law 253 = .ok (.invokevirtual 86, 3) := by decide +kernel
theorem dL_law_256 : decode cL_law 256 = .ok (.iastore, 1) := by decide +kernel
theorem dL_law_257 : decode cL_law 257 = .ok (.aload 10, 2) := by decide +kernel
theorem dL_law_259 : decode cL_law 259 = .ok (.iload 11, 2) := by decide +kernel
theorem dL_law_261 : decode cL_law 261 = .ok (.aaload, 1) := by decide +kernel
theorem dL_law_262 : decode cL_law 262 = .ok (.iload 12, 2) := by decide +kernel
theorem dL_law_264 : decode cL_law 264 = .ok (.iaload, 1) := by decide +kernel
theorem dL_law_265 : decode cL_law 265 = .ok (.ldc 89, 2) := by decide +kernel
theorem dL_law_267 : decode cL_law 267 = .ok (.if_icmp .eq 59, 3) := by decide +kernel
theorem dL_law_270 : decode cL_law 270 = .ok (.aload_n 1, 1) := by decide +kernel
theorem dL_law_271 : decode cL_law 271 = .ok (.iload 12, 2) := by decide +kernel
theorem dL_law_273 : decode cL_law 273 = .ok (.iconst 2, 1) := by decide +kernel
theorem dL_law_274 : decode cL_law 274 = .ok (.invokevirtual 83, 3) := by decide +kernel
theorem dL_law_277 : decode cL_law 277 = .ok (.aload_n 1, 1) := by decide +kernel
theorem dL_law_278 : decode cL_law 278 = .ok (.iload 11, 2) := by decide +kernel
theorem dL_law_280 : decode cL_law 280 = .ok (.iconst 2, 1) := by decide +kernel
theorem dL_law_281 : decode cL_law 281 = .ok (.invokevirtual 83, 3) := by decide +kernel
theorem dL_law_284 : decode cL_law 284 = .ok (.isub, 1) := by decide +kernel
theorem dL_law_285 : decode cL_law 285 = .ok (.aload 10, 2) := by decide +kernel
theorem dL_law_287 : decode cL_law 287 = .ok (.iload 11, 2) := by decide +kernel
theorem dL_law_289 : decode cL_law 289 = .ok (.aaload, 1) := by decide +kernel
theorem dL_law_290 : decode cL_law 290 = .ok (.iload 12, 2) := by decide +kernel
theorem dL_law_292 : decode cL_law 292 = .ok (.iaload, 1) := by decide +kernel
theorem dL_law_293 : decode cL_law 293 = .ok (.if_icmp .gt 31, 3) := by decide +kernel
theorem dL_law_296 : decode cL_law 296 = .ok (.aload_n 1, 1) := by decide +kernel
theorem dL_law_297 : decode cL_law 297 = .ok (.iload 12, 2) := by decide +kernel
theorem dL_law_299 : decode cL_law 299 = .ok (.iload 9, 2) := by decide +kernel
theorem dL_law_301 : decode cL_law 301 = .ok (.invokevirtual 80, 3) := by decide +kernel
theorem dL_law_304 : decode cL_law 304 = .ok (.aload_n 1, 1) := by decide +kernel
theorem dL_law_305 : decode cL_law 305 = .ok (.iload 11, 2) := by decide +kernel
theorem dL_law_307 : decode cL_law 307 = .ok (.iload 9, 2) := by decide +kernel
theorem dL_law_309 : decode cL_law 309 = .ok (.invokevirtual 80, 3) := by decide +kernel
theorem dL_law_312 : decode cL_law 312 = .ok (.isub, 1) := by decide +kernel
theorem dL_law_313 : decode cL_law 313 = .ok (.aload 10, 2) := by decide +kernel
theorem dL_law_315 : decode cL_law 315 = .ok (.iload 11, 2) := by decide +kernel
theorem dL_law_317 : decode cL_law 317 = .ok (.aaload, 1) := by decide +kernel
theorem dL_law_318 : decode cL_law 318 = .ok (.iload 12, 2) := by decide +kernel
theorem dL_law_320 : decode cL_law 320 = .ok (.iaload, 1) := by decide +kernel
theorem dL_law_321 : decode cL_law 321 = .ok (.if_icmp .le 5, 3) := by decide +kernel
theorem dL_law_324 : decode cL_law 324 = .ok (.iconst 0, 1) := by decide +kernel
theorem dL_law_325 : decode cL_law 325 = .ok (.ireturn, 1) := by decide +kernel
theorem dL_law_326 : decode cL_law 326 = .ok (.iinc 12 1, 3) := by decide +kernel
theorem dL_law_329 : decode cL_law 329 = .ok (.goto (-95), 3) := by decide +kernel
theorem dL_law_332 : decode cL_law 332 = .ok (.aload 10, 2) := by decide +kernel
theorem dL_law_334 : decode cL_law 334 = .ok (.iload 11, 2) := by decide +kernel
theorem dL_law_336 : decode cL_law 336 = .ok (.aaload, 1) := by decide +kernel
theorem dL_law_337 : decode cL_law 337 = .ok (.iload 11, 2) := by decide +kernel
theorem dL_law_339 : decode cL_law 339 = .ok (.iaload, 1) := by decide +kernel
theorem dL_law_340 : decode cL_law 340 = .ok (.ifCond .eq 5, 3) := by decide +kernel
theorem dL_law_343 : decode cL_law 343 = .ok (.iconst 0, 1) := by decide +kernel
theorem dL_law_344 : decode cL_law 344 = .ok (.ireturn, 1) := by decide +kernel
theorem dL_law_345 : decode cL_law 345 = .ok (.iinc 11 1, 3) := by decide +kernel
theorem dL_law_348 : decode cL_law 348 = .ok (.goto (-157), 3) := by decide +kernel
theorem dL_law_351 : decode cL_law 351 = .ok (.iconst 0, 1) := by decide +kernel
theorem dL_law_352 : decode cL_law 352 = .ok (.istore 11, 2) := by decide +kernel
theorem dL_law_354 : decode cL_law 354 = .ok (.iload 11, 2) := by decide +kernel
theorem dL_law_356 : decode cL_law 356 = .ok (.iload 5, 2) := by decide +kernel
theorem dL_law_358 : decode cL_law 358 = .ok (.if_icmp .ge 97, 3) := by decide +kernel
theorem dL_law_361 : decode cL_law 361 = .ok (.iconst 0, 1) := by decide +kernel
theorem dL_law_362 : decode cL_law 362 = .ok (.istore 12, 2) := by decide +kernel
theorem dL_law_364 : decode cL_law 364 = .ok (.iload 12, 2) := by decide +kernel
theorem dL_law_366 : decode cL_law 366 = .ok (.iload 5, 2) := by decide +kernel
theorem dL_law_368 : decode cL_law 368 = .ok (.if_icmp .ge 81, 3) := by decide +kernel
theorem dL_law_371 : decode cL_law 371 = .ok (.iconst 0, 1) := by decide +kernel
theorem dL_law_372 : decode cL_law 372 = .ok (.istore 13, 2) := by decide +kernel
theorem dL_law_374 : decode cL_law 374 = .ok (.iload 13, 2) := by decide +kernel
theorem dL_law_376 : decode cL_law 376 = .ok (.iload 5, 2) := by decide +kernel
theorem dL_law_378 : decode cL_law 378 = .ok (.if_icmp .ge 65, 3) := by decide +kernel
theorem dL_law_381 : decode cL_law 381 = .ok (.aload 10, 2) := by decide +kernel
theorem dL_law_383 : decode cL_law 383 = .ok (.iload 11, 2) := by decide +kernel
theorem dL_law_385 : decode cL_law 385 = .ok (.aaload, 1) := by decide +kernel
theorem dL_law_386 : decode cL_law 386 = .ok (.iload 12, 2) := by decide +kernel
theorem dL_law_388 : decode cL_law 388 = .ok (.iaload, 1) := by decide +kernel
theorem dL_law_389 : decode cL_law 389 = .ok (.ldc 89, 2) := by decide +kernel
theorem dL_law_391 : decode cL_law 391 = .ok (.if_icmp .eq 46, 3) := by decide +kernel
theorem dL_law_394 : decode cL_law 394 = .ok (.aload 10, 2) := by decide +kernel
theorem dL_law_396 : decode cL_law 396 = .ok (.iload 12, 2) := by decide +kernel
theorem dL_law_398 : decode cL_law 398 = .ok (.aaload, 1) := by decide +kernel
theorem dL_law_399 : decode cL_law 399 = .ok (.iload 13, 2) := by decide +kernel
theorem dL_law_401 : decode cL_law 401 = .ok (.iaload, 1) := by decide +kernel
theorem dL_law_402 : decode cL_law 402 = .ok (.ldc 89, 2) := by decide +kernel
theorem dL_law_404 : decode cL_law 404 = .ok (.if_icmp .eq 33, 3) := by decide +kernel
theorem dL_law_407 : decode cL_law 407 = .ok (.aload 10, 2) := by decide +kernel
theorem dL_law_409 : decode cL_law 409 = .ok (.iload 11, 2) := by decide +kernel
theorem dL_law_411 : decode cL_law 411 = .ok (.aaload, 1) := by decide +kernel
theorem dL_law_412 : decode cL_law 412 = .ok (.iload 13, 2) := by decide +kernel
theorem dL_law_414 : decode cL_law 414 = .ok (.iaload, 1) := by decide +kernel
theorem dL_law_415 : decode cL_law 415 = .ok (.aload 10, 2) := by decide +kernel
theorem dL_law_417 : decode cL_law 417 = .ok (.iload 11, 2) := by decide +kernel
theorem dL_law_419 : decode cL_law 419 = .ok (.aaload, 1) := by decide +kernel
theorem dL_law_420 : decode cL_law 420 = .ok (.iload 12, 2) := by decide +kernel
theorem dL_law_422 : decode cL_law 422 = .ok (.iaload, 1) := by decide +kernel
theorem dL_law_423 : decode cL_law 423 = .ok (.aload 10, 2) := by decide +kernel
theorem dL_law_425 : decode cL_law 425 = .ok (.iload 12, 2) := by decide +kernel
theorem dL_law_427 : decode cL_law 427 = .ok (.aaload, 1) := by decide +kernel
theorem dL_law_428 : decode cL_law 428 = .ok (.iload 13, 2) := by decide +kernel
theorem dL_law_430 : decode cL_law 430 = .ok (.iaload, 1) := by decide +kernel
theorem dL_law_431 : decode cL_law 431 = .ok (.iadd, 1) := by decide +kernel
theorem dL_law_432 : decode cL_law 432 = .ok (.if_icmp .le 5, 3) := by decide +kernel
theorem dL_law_435 : decode cL_law 435 = .ok (.iconst 0, 1) := by decide +kernel
theorem dL_law_436 : decode cL_law 436 = .ok (.ireturn, 1) := by decide +kernel
theorem dL_law_437 : decode cL_law 437 = .ok (.iinc 13 1, 3) := by decide +kernel
theorem dL_law_440 : decode cL_law 440 = .ok (.goto (-66), 3) := by decide +kernel
theorem dL_law_443 : decode cL_law 443 = .ok (.iinc 12 1, 3) := by decide +kernel
theorem dL_law_446 : decode cL_law 446 = .ok (.goto (-82), 3) := by decide +kernel
theorem dL_law_449 : decode cL_law 449 = .ok (.iinc 11 1, 3) := by decide +kernel
theorem dL_law_452 : decode cL_law 452 = .ok (.goto (-98), 3) := by decide +kernel
theorem dL_law_455 : decode cL_law 455 = .ok (.iconst 0, 1) := by decide +kernel
theorem dL_law_456 : decode cL_law 456 = .ok (.istore 11, 2) := by decide +kernel
theorem dL_law_458 : decode cL_law 458 = .ok (.iload 11, 2) := by decide +kernel
theorem dL_law_460 : decode cL_law 460 = .ok (.iload 6, 2) := by decide +kernel
theorem dL_law_462 : decode cL_law 462 = .ok (.if_icmp .ge 149, 3) := by decide +kernel
theorem dL_law_465 : decode cL_law 465 = .ok (.aload_n 1, 1) := by decide +kernel
theorem dL_law_466 : decode cL_law 466 = .ok (.iload 11, 2) := by decide +kernel
theorem dL_law_468 : decode cL_law 468 = .ok (.iconst 3, 1) := by decide +kernel
theorem dL_law_469 : decode cL_law 469 = .ok (.invokevirtual 90, 3) := by decide +kernel
theorem dL_law_472 : decode cL_law 472 = .ok (.ifCond .ne 6, 3) := by decide +kernel
theorem dL_law_475 : decode cL_law 475 = .ok (.goto 130, 3) := by decide +kernel
theorem dL_law_478 : decode cL_law 478 = .ok (.aload_n 1, 1) := by decide +kernel
theorem dL_law_479 : decode cL_law 479 = .ok (.iload 11, 2) := by decide +kernel
theorem dL_law_481 : decode cL_law 481 = .ok (.iconst 2, 1) := by decide +kernel
theorem dL_law_482 : decode cL_law 482 = .ok (.invokevirtual 90, 3) := by decide +kernel
theorem dL_law_485 : decode cL_law 485 = .ok (.istore 12, 2) := by decide +kernel
theorem dL_law_487 : decode cL_law 487 = .ok (.aload_n 1, 1) := by decide +kernel
theorem dL_law_488 : decode cL_law 488 = .ok (.iload 11, 2) := by decide +kernel
theorem dL_law_490 : decode cL_law 490 = .ok (.invokevirtual 93, 3) := by decide +kernel
theorem dL_law_493 : decode cL_law 493 = .ok (.istore 13, 2) := by decide +kernel
theorem dL_law_495 : decode cL_law 495 = .ok (.iload 13, 2) := by decide +kernel
theorem dL_law_497 : decode cL_law 497 = .ok (.iload 12, 2) := by decide +kernel
theorem dL_law_499 : decode cL_law 499 = .ok (.if_icmp .gt 33, 3) := by decide +kernel
theorem dL_law_502 : decode cL_law 502 = .ok (.iload 13, 2) := by decide +kernel
theorem dL_law_504 : decode cL_law 504 = .ok (.bipush (-99), 2) := by decide +kernel
theorem dL_law_506 : decode cL_law 506 = .ok (.if_icmp .lt 26, 3) := by decide +kernel
theorem dL_law_509 : decode cL_law 509 = .ok (.aload 10, 2) := by decide +kernel
theorem dL_law_511 : decode cL_law 511 = .ok (.aload_n 1, 1) := by decide +kernel
theorem dL_law_512 : decode cL_law 512 = .ok (.iload 11, 2) := by decide +kernel
theorem dL_law_514 : decode cL_law 514 = .ok (.iconst 0, 1) := by decide +kernel
theorem dL_law_515 : decode cL_law 515 = .ok (.invokevirtual 90, 3) := by decide +kernel
theorem dL_law_518 : decode cL_law 518 = .ok (.aaload, 1) := by decide +kernel
theorem dL_law_519 : decode cL_law 519 = .ok (.aload_n 1, 1) := by decide +kernel
theorem dL_law_520 : decode cL_law 520 = .ok (.iload 11, 2) := by decide +kernel
theorem dL_law_522 : decode cL_law 522 = .ok (.iconst 1, 1) := by decide +kernel
theorem dL_law_523 : decode cL_law 523 = .ok (.invokevirtual 90, 3) := by decide +kernel
theorem dL_law_526 : decode cL_law 526 = .ok (.iaload, 1) := by decide +kernel
theorem dL_law_527 : decode cL_law 527 = .ok (.iload 12, 2) := by decide +kernel
theorem dL_law_529 : decode cL_law 529 = .ok (.if_icmp .le 5, 3) := by decide +kernel
theorem dL_law_532 : decode cL_law 532 = .ok (.iconst 0, 1) := by decide +kernel
theorem dL_law_533 : decode cL_law 533 = .ok (.ireturn, 1) := by decide +kernel
theorem dL_law_534 : decode cL_law 534 = .ok (.aload_n 1, 1) := by decide +kernel
theorem dL_law_535 : decode cL_law 535 = .ok (.iload 11, 2) := by decide +kernel
theorem dL_law_537 : decode cL_law 537 = .ok (.iload 13, 2) := by decide +kernel
theorem dL_law_539 : decode cL_law 539 = .ok (.invokevirtual 31, 3) := by decide +kernel
theorem dL_law_542 : decode cL_law 542 = .ok (.iload 12, 2) := by decide +kernel
theorem dL_law_544 : decode cL_law 544 = .ok (.if_icmp .ne 10, 3) := by decide +kernel
theorem dL_law_547 : decode cL_law 547 = .ok (.aload_n 1, 1) := by decide +kernel
theorem dL_law_548 : decode cL_law 548 = .ok (.invokevirtual 75, 3) := by decide +kernel
theorem dL_law_551 : decode cL_law 551 = .ok (.ifCond .ne 5, 3) := by decide +kernel
theorem dL_law_554 : decode cL_law 554 = .ok (.iconst 0, 1) := by decide +kernel
theorem dL_law_555 : decode cL_law 555 = .ok (.ireturn, 1) := by decide +kernel
theorem dL_law_556 : decode cL_law 556 = .ok (.iload 13, 2) := by decide +kernel
theorem dL_law_558 : decode cL_law 558 = .ok (.bipush (-99), 2) := by decide +kernel
theorem dL_law_560 : decode cL_law 560 = .ok (.if_icmp .le 27, 3) := by decide +kernel
theorem dL_law_563 : decode cL_law 563 = .ok (.aload_n 1, 1) := by decide +kernel
theorem dL_law_564 : decode cL_law 564 = .ok (.iload 11, 2) := by decide +kernel
theorem dL_law_566 : decode cL_law 566 = .ok (.iload 13, 2) := by decide +kernel
theorem dL_law_568 : decode cL_law 568 = .ok (.iconst 1, 1) := by decide +kernel
theorem dL_law_569 : decode cL_law 569 = .ok (.isub, 1) := by decide +kernel
theorem dL_law_570 : decode cL_law 570 = .ok (.invokevirtual 31, 3) := by decide +kernel
theorem dL_law_573 : decode cL_law 573 = .ok (.iload 13, 2) := by decide +kernel
theorem dL_law_575 : decode cL_law 575 = .ok (.if_icmp .ne 10, 3) := by decide +kernel
theorem dL_law_578 : decode cL_law 578 = .ok (.aload_n 1, 1) := by decide +kernel
theorem dL_law_579 : decode cL_law 579 = .ok (.invokevirtual 75, 3) := by decide +kernel
theorem dL_law_582 : decode cL_law 582 = .ok (.ifCond .eq 5, 3) := by decide +kernel
theorem dL_law_585 : decode cL_law 585 = .ok (.iconst 0, 1) := by decide +kernel
theorem dL_law_586 : decode cL_law 586 = .ok (.ireturn, 1) := by decide +kernel
theorem dL_law_587 : decode cL_law 587 = .ok (.aload_n 1, 1) := by decide +kernel
theorem dL_law_588 : decode cL_law 588 = .ok (.iload 11, 2) := by decide +kernel
theorem dL_law_590 : decode cL_law 590 = .ok (.iload 12, 2) := by decide +kernel
theorem dL_law_592 : decode cL_law 592 = .ok (.invokevirtual 31, 3) := by decide +kernel
theorem dL_law_595 : decode cL_law 595 = .ok (.pop, 1) := by decide +kernel
theorem dL_law_596 : decode cL_law 596 = .ok (.aload_n 1, 1) := by decide +kernel
theorem dL_law_597 : decode cL_law 597 = .ok (.invokevirtual 75, 3) := by decide +kernel
theorem dL_law_600 : decode cL_law 600 = .ok (.ifCond .ne 5, 3) := by decide +kernel
theorem dL_law_603 : decode cL_law 603 = .ok (.iconst 0, 1) := by decide +kernel
theorem dL_law_604 : decode cL_law 604 = .ok (.ireturn, 1) := by decide +kernel
theorem dL_law_605 : decode cL_law 605 = .ok (.iinc 11 1, 3) := by decide +kernel
theorem dL_law_608 : decode cL_law 608 = .ok (.goto (-150), 3) := by decide +kernel
theorem dL_law_611 : decode cL_law 611 = .ok (.iload 4, 2) := by decide +kernel
theorem dL_law_613 : decode cL_law 613 = .ok (.iconst 3, 1) := by decide +kernel
theorem dL_law_614 : decode cL_law 614 = .ok (.invokestatic 19, 3) := by decide +kernel
theorem dL_law_617 : decode cL_law 617 = .ok (.ifCond .le 6, 3) := by decide +kernel
theorem dL_law_620 : decode cL_law 620 = .ok (.goto 239, 3) := by decide +kernel
theorem dL_law_623 : decode cL_law 623 = .ok (.iload 5, 2) := by decide +kernel
theorem dL_law_625 : decode cL_law 625 = .ok (.newarray .int, 2) := by decide +kernel
theorem dL_law_627 : decode cL_law 627 = .ok (.astore 11, 2) := by decide +kernel
theorem dL_law_629 : decode cL_law 629 = .ok (.iconst 0, 1) := by decide +kernel
theorem dL_law_630 : decode cL_law 630 = .ok (.istore 12, 2) := by decide +kernel
theorem dL_law_632 : decode cL_law 632 = .ok (.iload 12, 2) := by decide +kernel
theorem dL_law_634 : decode cL_law 634 = .ok (.iload 5, 2) := by decide +kernel
theorem dL_law_636 : decode cL_law 636 = .ok (.if_icmp .ge 21, 3) := by decide +kernel
theorem dL_law_639 : decode cL_law 639 = .ok (.aload 11, 2) := by decide +kernel
theorem dL_law_641 : decode cL_law 641 = .ok (.iload 12, 2) := by decide +kernel
theorem dL_law_643 : decode cL_law 643 = .ok (.aload_n 1, 1) := by decide +kernel
theorem dL_law_644 : decode cL_law 644 = .ok (.iload 12, 2) := by decide +kernel
theorem dL_law_646 : decode cL_law 646 = .ok (.iconst 2, 1) := by decide +kernel
theorem dL_law_647 : decode cL_law 647 = .ok (.invokevirtual 83, 3) := by decide +kernel
theorem dL_law_650 : decode cL_law 650 = .ok (.iastore, 1) := by decide +kernel
theorem dL_law_651 : decode cL_law 651 = .ok (.iinc 12 1, 3) := by decide +kernel
theorem dL_law_654 : decode cL_law 654 = .ok (.goto (-22), 3) := by decide +kernel
theorem dL_law_657 : decode cL_law 657 = .ok (.iconst 0, 1) := by decide +kernel
theorem dL_law_658 : decode cL_law 658 = .ok (.istore 12, 2) := by decide +kernel
theorem dL_law_660 : decode cL_law 660 = .ok (.iconst 0, 1) := by decide +kernel
theorem dL_law_661 : decode cL_law 661 = .ok (.istore 13, 2) := by decide +kernel
theorem dL_law_663 : decode cL_law 663 = .ok (.iload 13, 2) := by decide +kernel
theorem dL_law_665 : decode cL_law 665 = .ok (.iload 6, 2) := by decide +kernel
theorem dL_law_667 : decode cL_law 667 = .ok (.if_icmp .ge 36, 3) := by decide +kernel
theorem dL_law_670 : decode cL_law 670 = .ok (.iload 12, 2) := by decide +kernel
theorem dL_law_672 : decode cL_law 672 = .ok (.aload_n 1, 1) := by decide +kernel
theorem dL_law_673 : decode cL_law 673 = .ok (.iload 13, 2) := by decide +kernel
theorem dL_law_675 : decode cL_law 675 = .ok (.iconst 3, 1) := by decide +kernel
theorem dL_law_676 : decode cL_law 676 = .ok (.invokevirtual 90, 3) := by decide +kernel
theorem dL_law_679 : decode cL_law 679 = .ok (.iconst 1, 1) := by decide +kernel
theorem dL_law_680 : decode cL_law 680 = .ok (.if_icmp .ne 13, 3) := by decide +kernel
theorem dL_law_683 : decode cL_law 683 = .ok (.aload_n 1, 1) := by decide +kernel
theorem dL_law_684 : decode cL_law 684 = .ok (.iload 13, 2) := by decide +kernel
theorem dL_law_686 : decode cL_law 686 = .ok (.iconst 2, 1) := by decide +kernel
theorem dL_law_687 : decode cL_law 687 = .ok (.invokevirtual 90, 3) := by decide +kernel
theorem dL_law_690 : decode cL_law 690 = .ok (.goto 4, 3) := by decide +kernel
theorem dL_law_693 : decode cL_law 693 = .ok (.iconst 0, 1) := by decide +kernel
theorem dL_law_694 : decode cL_law 694 = .ok (.iadd, 1) := by decide +kernel
theorem dL_law_695 : decode cL_law 695 = .ok (.istore 12, 2) := by decide +kernel
theorem dL_law_697 : decode cL_law 697 = .ok (.iinc 13 1, 3) := by decide +kernel
theorem dL_law_700 : decode cL_law 700 = .ok (.goto (-37), 3) := by decide +kernel
theorem dL_law_703 : decode cL_law 703 = .ok (.aload_n 1, 1) := by decide +kernel
theorem dL_law_704 : decode cL_law 704 = .ok (.invokevirtual 46, 3) := by decide +kernel
theorem dL_law_707 : decode cL_law 707 = .ok (.istore 13, 2) := by decide +kernel
theorem dL_law_709 : decode cL_law 709 = .ok (.iconst 0, 1) := by decide +kernel
theorem dL_law_710 : decode cL_law 710 = .ok (.istore 14, 2) := by decide +kernel
theorem dL_law_712 : decode cL_law 712 = .ok (.iconst 0, 1) := by decide +kernel
theorem dL_law_713 : decode cL_law 713 = .ok (.istore 15, 2) := by decide +kernel
theorem dL_law_715 : decode cL_law 715 = .ok (.iload 15, 2) := by decide +kernel
theorem dL_law_717 : decode cL_law 717 = .ok (.iload 6, 2) := by decide +kernel
theorem dL_law_719 : decode cL_law 719 = .ok (.if_icmp .ge 81, 3) := by decide +kernel
theorem dL_law_722 : decode cL_law 722 = .ok (.iload 14, 2) := by decide +kernel
theorem dL_law_724 : decode cL_law 724 = .ok (.aload_n 1, 1) := by decide +kernel
theorem dL_law_725 : decode cL_law 725 = .ok (.iload 15, 2) := by decide +kernel
theorem dL_law_727 : decode cL_law 727 = .ok (.iconst 3, 1) := by decide +kernel
theorem dL_law_728 : decode cL_law 728 = .ok (.invokevirtual 90, 3) := by decide +kernel
theorem dL_law_731 : decode cL_law 731 = .ok (.iconst 1, 1) := by decide +kernel
theorem dL_law_732 : decode cL_law 732 = .ok (.if_icmp .ne 13, 3) := by decide +kernel
theorem dL_law_735 : decode cL_law 735 = .ok (.aload_n 1, 1) := by decide +kernel
theorem dL_law_736 : decode cL_law 736 = .ok (.iload 15, 2) := by decide +kernel
theorem dL_law_738 : decode cL_law 738 = .ok (.iconst 2, 1) := by decide +kernel
theorem dL_law_739 : decode cL_law 739 = .ok (.invokevirtual 90, 3) := by decide +kernel
theorem dL_law_742 : decode cL_law 742 = .ok (.goto 4, 3) := by decide +kernel
theorem dL_law_745 : decode cL_law 745 = .ok (.iconst 0, 1) := by decide +kernel
theorem dL_law_746 : decode cL_law 746 = .ok (.iadd, 1) := by decide +kernel
theorem dL_law_747 : decode cL_law 747 = .ok (.istore 14, 2) := by decide +kernel
theorem dL_law_749 : decode cL_law 749 = .ok (.aload_n 1, 1) := by decide +kernel
theorem dL_law_750 : decode cL_law 750 = .ok (.iload 15, 2) := by decide +kernel
theorem dL_law_752 : decode cL_law 752 = .ok (.iconst 3, 1) := by decide +kernel
theorem dL_law_753 : decode cL_law 753 = .ok (.invokevirtual 90, 3) := by decide +kernel
theorem dL_law_756 : decode cL_law 756 = .ok (.iconst 1, 1) := by decide +kernel
theorem dL_law_757 : decode cL_law 757 = .ok (.if_icmp .ne 21, 3) := by decide +kernel
theorem dL_law_760 : decode cL_law 760 = .ok (.aload_n 1, 1) := by decide +kernel
theorem dL_law_761 : decode cL_law 761 = .ok (.iload 15, 2) := by decide +kernel
theorem dL_law_763 : decode cL_law 763 = .ok (.invokevirtual 93, 3) := by decide +kernel
theorem dL_law_766 : decode cL_law 766 = .ok (.aload_n 1, 1) := by decide +kernel
theorem dL_law_767 : decode cL_law 767 = .ok (.iload 15, 2) := by decide +kernel
theorem dL_law_769 : decode cL_law 769 = .ok (.iconst 2, 1) := by decide +kernel
theorem dL_law_770 : decode cL_law 770 = .ok (.invokevirtual 90, 3) := by decide +kernel
theorem dL_law_773 : decode cL_law 773 = .ok (.if_icmp .eq 5, 3) := by decide +kernel
theorem dL_law_776 : decode cL_law 776 = .ok (.iconst 0, 1) := by decide +kernel
theorem dL_law_777 : decode cL_law 777 = .ok (.ireturn, 1) := by decide +kernel
theorem dL_law_778 : decode cL_law 778 = .ok (.aload_n 2, 1) := by decide +kernel
theorem dL_law_779 : decode cL_law 779 = .ok (.getfield 15, 3) := by decide +kernel
theorem dL_law_782 : decode cL_law 782 = .ok (.iload 15, 2) := by decide +kernel
theorem dL_law_784 : decode cL_law 784 = .ok (.aaload, 1) := by decide +kernel
theorem dL_law_785 : decode cL_law 785 = .ok (.iconst 2, 1) := by decide +kernel
theorem dL_law_786 : decode cL_law 786 = .ok (.aload_n 1, 1) := by decide +kernel
theorem dL_law_787 : decode cL_law 787 = .ok (.iload 15, 2) := by decide +kernel
theorem dL_law_789 : decode cL_law 789 = .ok (.iconst 2, 1) := by decide +kernel
theorem dL_law_790 : decode cL_law 790 = .ok (.invokevirtual 90, 3) := by decide +kernel
theorem dL_law_793 : decode cL_law 793 = .ok (.iastore, 1) := by decide +kernel
theorem dL_law_794 : decode cL_law 794 = .ok (.iinc 15 1, 3) := by decide +kernel
theorem dL_law_797 : decode cL_law 797 = .ok (.goto (-82), 3) := by decide +kernel
theorem dL_law_800 : decode cL_law 800 = .ok (.iload 13, 2) := by decide +kernel
theorem dL_law_802 : decode cL_law 802 = .ok (.iload 12, 2) := by decide +kernel
theorem dL_law_804 : decode cL_law 804 = .ok (.iload 14, 2) := by decide +kernel
theorem dL_law_806 : decode cL_law 806 = .ok (.isub, 1) := by decide +kernel
theorem dL_law_807 : decode cL_law 807 = .ok (.if_icmp .ne 17, 3) := by decide +kernel
theorem dL_law_810 : decode cL_law 810 = .ok (.aload_n 1, 1) := by decide +kernel
theorem dL_law_811 : decode cL_law 811 = .ok (.invokevirtual 75, 3) := by decide +kernel
theorem dL_law_814 : decode cL_law 814 = .ok (.ifCond .eq 10, 3) := by decide +kernel
theorem dL_law_817 : decode cL_law 817 = .ok (.aload_n 1, 1) := by decide +kernel
theorem dL_law_818 : decode cL_law 818 = .ok (.invokevirtual 46, 3) := by decide +kernel
theorem dL_law_821 : decode cL_law 821 = .ok (.ifCond .eq 5, 3) := by decide +kernel
theorem dL_law_824 : decode cL_law 824 = .ok (.iconst 0, 1) := by decide +kernel
theorem dL_law_825 : decode cL_law 825 = .ok (.ireturn, 1) := by decide +kernel
theorem dL_law_826 : decode cL_law 826 = .ok (.iconst 0, 1) := by decide +kernel
theorem dL_law_827 : decode cL_law 827 = .ok (.istore 15, 2) := by decide +kernel
theorem dL_law_829 : decode cL_law 829 = .ok (.iload 15, 2) := by decide +kernel
theorem dL_law_831 : decode cL_law 831 = .ok (.iload 5, 2) := by decide +kernel
theorem dL_law_833 : decode cL_law 833 = .ok (.if_icmp .ge 26, 3) := by decide +kernel
theorem dL_law_836 : decode cL_law 836 = .ok (.aload_n 1, 1) := by decide +kernel
theorem dL_law_837 : decode cL_law 837 = .ok (.iload 15, 2) := by decide +kernel
theorem dL_law_839 : decode cL_law 839 = .ok (.iconst 2, 1) := by decide +kernel
theorem dL_law_840 : decode cL_law 840 = .ok (.invokevirtual 83, 3) := by decide +kernel
theorem dL_law_843 : decode cL_law 843 = .ok (.aload 11, 2) := by decide +kernel
theorem dL_law_845 : decode cL_law 845 = .ok (.iload 15, 2) := by decide +kernel
theorem dL_law_847 : decode cL_law 847 = .ok (.iaload, 1) := by decide +kernel
theorem dL_law_848 : decode cL_law 848 = .ok (.if_icmp .ge 5, 3) := by decide +kernel
theorem dL_law_851 : decode cL_law 851 = .ok (.iconst 0, 1) := by decide +kernel
theorem dL_law_852 : decode cL_law 852 = .ok (.ireturn, 1) := by decide +kernel
theorem dL_law_853 : decode cL_law 853 = .ok (.iinc 15 1, 3) := by decide +kernel
theorem dL_law_856 : decode cL_law 856 = .ok (.goto (-27), 3) := by decide +kernel
theorem dL_law_859 : decode cL_law 859 = .ok (.iinc 3 1, 3) := by decide +kernel
theorem dL_law_862 : decode cL_law 862 = .ok (.goto (-840), 3) := by decide +kernel
theorem dL_law_865 : decode cL_law 865 = .ok (.aload_n 2, 1) := by decide +kernel
theorem dL_law_866 : decode cL_law 866 = .ok (.aload_n 1, 1) := by decide +kernel
theorem dL_law_867 : decode cL_law 867 = .ok (.invokevirtual 94, 3) := by decide +kernel
theorem dL_law_870 : decode cL_law 870 = .ok (.ireturn, 1) := by decide +kernel
abbrev vwCl : List vw_C := [(RX0, TX0, 12), (RX1, TX1, 2)]

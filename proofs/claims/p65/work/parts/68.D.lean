theorem xy_X8_restores : gYV yX8_restores cX8_restores 2 (some .boolean) 0 := ⟨kw_1516, kw_50, kw_1515, kw_46, ⟨by decide +kernel, by decide +kernel⟩, by decide +kernel⟩
theorem xy_Jx4a65c_add_9ea2d : gYV yJx4a65c_add_9ea2d cJx4a65c_add_9ea2d 2 (some .boolean) 1 := ⟨kw_822, kw_61, kw_820, kw_821, ⟨by decide +kernel, by decide +kernel⟩, by decide +kernel⟩
theorem xy_X8_adjusts : gYV yX8_adjusts cX8_adjusts 12 (some .int) 1 := ⟨kw_1547, kw_50, kw_1546, kw_48, ⟨by decide +kernel, by decide +kernel⟩, by decide +kernel⟩
theorem dX8_does_0 : decode cX8_does 0 = .ok (.iload_n 1, 1) := by decide +kernel
theorem dX8_does_1 : decode cX8_does 1 = .ok (.iconst 4, 1) := by decide +kernel
theorem dX8_does_2 : decode cX8_does 2 = .ok (.ishr, 1) := by decide +kernel
theorem dX8_does_3 : decode cX8_does 3 = .ok (.aload_n 0, 1) := by decide +kernel
theorem dX8_does_4 : decode cX8_does 4 = .ok (.getfield 47, 3) := by decide +kernel
theorem dX8_does_7 : decode cX8_does 7 = .ok (.invokestatic 39, 3) := by decide +kernel
theorem dX8_does_10 : decode cX8_does 10 = .ok (.istore_n 2, 1) := by decide +kernel
theorem dX8_does_11 : decode cX8_does 11 = .ok (.iload_n 1, 1) := by decide +kernel
theorem dX8_does_12 : decode cX8_does 12 = .ok (.bipush 8, 2) := by decide +kernel
theorem dX8_does_14 : decode cX8_does 14 = .ok (.ishr, 1) := by decide +kernel
theorem dX8_does_15 : decode cX8_does 15 = .ok (.aload_n 0, 1) := by decide +kernel
theorem dX8_does_16 : decode cX8_does 16 = .ok (.getfield 43, 3) := by decide +kernel
theorem dX8_does_19 : decode cX8_does 19 = .ok (.invokestatic 39, 3) := by decide +kernel
theorem dX8_does_22 : decode cX8_does 22 = .ok (.istore_n 3, 1) := by decide +kernel
theorem dX8_does_23 : decode cX8_does 23 = .ok (.iload_n 1, 1) := by decide +kernel
theorem dX8_does_24 : decode cX8_does 24 = .ok (.bipush 9, 2) := by decide +kernel
theorem dX8_does_26 : decode cX8_does 26 = .ok (.invokestatic 39, 3) := by decide +kernel
theorem dX8_does_29 : decode cX8_does 29 = .ok (.istore 4, 2) := by decide +kernel
theorem dX8_does_31 : decode cX8_does 31 = .ok (.iload 4, 2) := by decide +kernel
theorem dX8_does_33 : decode cX8_does 33 = .ok (.bipush 7, 2) := by decide +kernel
theorem dX8_does_35 : decode cX8_does 35 = .ok (.if_icmp .ge 8, 3) := by decide +kernel
theorem dX8_does_38 : decode cX8_does 38 = .ok (.aload_n 0, 1) := by decide +kernel
theorem dX8_does_39 : decode cX8_does 39 = .ok (.aconst_null, 1) := by decide +kernel
theorem dX8_does_40 : decode cX8_does 40 = .ok (.putfield 260, 3) := by decide +kernel
theorem dX8_does_43 : decode cX8_does 43 = .ok (.iload 4, 2) := by decide +kernel
theorem dX8_does_45 : decode cX8_does 45 = .ok (.tableswitch 635 0 6 #[43, 125, 183, 321, 516, 516, 568], 43) := by decide +kernel
theorem dX8_does_88 : decode cX8_does 88 = .ok (.aload_n 0, 1) := by decide +kernel
theorem dX8_does_89 : decode cX8_does 89 = .ok (.getfield 22, 3) := by decide +kernel
theorem dX8_does_92 : decode cX8_does 92 = .ok (.iload_n 3, 1) := by decide +kernel
theorem dX8_does_93 : decode cX8_does 93 = .ok (.iload_n 1, 1) := by decide +kernel
theorem dX8_does_94 : decode cX8_does 94 = .ok (.bipush 11, 2) := by decide +kernel
theorem dX8_does_96 : decode cX8_does 96 = .ok (.ishr, 1) := by decide +kernel
theorem dX8_does_97 : decode cX8_does 97 = .ok (.ldc_w 299, 3) := by decide +kernel
theorem dX8_does_100 : decode cX8_does 100 = .ok (.invokestatic 39, 3) := by decide +kernel
theorem dX8_does_103 : decode cX8_does 103 = .ok (.iastore, 1) := by decide +kernel
theorem dX8_does_104 : decode cX8_does 104 = .ok (.iconst 0, 1) := by decide +kernel
theorem dX8_does_105 : decode cX8_does 105 = .ok (.istore 5, 2) := by decide +kernel
theorem dX8_does_107 : decode cX8_does 107 = .ok (.iconst 0, 1) := by decide +kernel
theorem dX8_does_108 : decode cX8_does 108 = .ok (.istore 6, 2) := by decide +kernel
theorem dX8_does_110 : decode cX8_does 110 = .ok (.iload 6, 2) := by decide +kernel
theorem dX8_does_112 : decode cX8_does 112 = .ok (.aload_n 0, 1) := by decide +kernel
theorem dX8_does_113 : decode cX8_does 113 = .ok (.getfield 43, 3) := by decide +kernel
theorem dX8_does_116 : decode cX8_does 116 = .ok (.if_icmp .ge 29, 3) := by decide +kernel
theorem dX8_does_119 : decode cX8_does 119 = .ok (.iload 5, 2) := by decide +kernel
theorem dX8_does_121 : decode cX8_does 121 = .ok (.aload_n 0, 1) := by decide +kernel
theorem dX8_does_122 : decode cX8_does 122 = .ok (.getfield 22, 3) := by decide +kernel
theorem dX8_does_125 : decode cX8_does 125 = .ok (.iload 6, 2) := by decide +kernel
theorem dX8_does_127 : decode cX8_does 127 = .ok (.iaload, 1) := by decide +kernel
theorem dX8_does_128 : decode cX8_does 128 = .ok (.ifCond .lt 7, 3) := by decide +kernel
theorem dX8_does_131 : decode cX8_does 131 = .ok (.iconst 1, 1) := by decide +kernel
theorem dX8_does_132 : decode cX8_does 132 = .ok (.goto 4, 3) := by decide +kernel
theorem dX8_does_135 : decode cX8_does 135 = .ok (.iconst 0, 1) := by decide +kernel
theorem dX8_does_136 : decode cX8_does 136 = .ok (.iadd, 1) := by decide +kernel
theorem dX8_does_137 : decode cX8_does 137 = .ok (.istore 5, 2) := by decide +kernel
theorem dX8_does_139 : decode cX8_does 139 = .ok (.iinc 6 1, 3) := by decide +kernel
theorem dX8_does_142 : decode cX8_does 142 = .ok (.goto (-32), 3) := by decide +kernel
theorem dX8_does_145 : decode cX8_does 145 = .ok (.aload_n 0, 1) := by decide +kernel
theorem dX8_does_146 : decode cX8_does 146 = .ok (.getfield 12, 3) := by decide +kernel
theorem dX8_does_149 : decode cX8_does 149 = .ok (.iload_n 3, 1) := by decide +kernel
theorem dX8_does_150 : decode cX8_does 150 = .ok (.aload_n 0, 1) := by decide +kernel
theorem dX8_does_151 : decode cX8_does 151 = .ok (.getfield 22, 3) := by decide +kernel
theorem dX8_does_154 : decode cX8_does 154 = .ok (.iload_n 3, 1) := by decide +kernel
theorem dX8_does_155 : decode cX8_does 155 = .ok (.iaload, 1) := by decide +kernel
theorem dX8_does_156 : decode cX8_does 156 = .ok (.invokevirtual 300, 3) := by decide +kernel
theorem dX8_does_159 : decode cX8_does 159 = .ok (.iload 5, 2) := by decide +kernel
theorem dX8_does_161 : decode cX8_does 161 = .ok (.if_icmp .ne 7, 3) := by decide +kernel
theorem dX8_does_164 : decode cX8_does 164 = .ok (.iconst 1, 1) := by decide +kernel
theorem dX8_does_165 : decode cX8_does 165 = .ok (.goto 4, 3) := by decide +kernel
theorem dX8_does_168 : decode cX8_does 168 = .ok (.iconst 0, 1) := by decide +kernel
theorem dX8_does_169 : decode cX8_does 169 = .ok (.ireturn, 1) := by decide +kernel
theorem dX8_does_170 : decode cX8_does 170 = .ok (.aload_n 0, 1) := by decide +kernel
theorem dX8_does_171 : decode cX8_does 171 = .ok (.getfield 22, 3) := by decide +kernel
theorem dX8_does_174 : decode cX8_does 174 = .ok (.iload_n 3, 1) := by decide +kernel
theorem dX8_does_175 : decode cX8_does 175 = .ok (.iaload, 1) := by decide +kernel
theorem dX8_does_176 : decode cX8_does 176 = .ok (.ifCond .ge 28, 3) := by decide +kernel
theorem dX8_does_179 : decode cX8_does 179 = .ok (.aload_n 0, 1) := by decide +kernel
theorem dX8_does_180 : decode cX8_does 180 = .ok (.getfield 12, 3) := by decide +kernel
theorem dX8_does_183 : decode cX8_does 183 = .ok (.iload_n 3, 1) := by decide +kernel
theorem dX8_does_184 : decode cX8_does 184 = .ok (.invokevirtual 303, 3) := by decide +kernel
theorem dX8_does_187 : decode cX8_does 187 = .ok (.iconst (-1), 1) := by decide +kernel
theorem dX8_does_188 : decode cX8_does 188 = .ok (.if_icmp .ne 14, 3) := by decide +kernel
theorem dX8_does_191 : decode cX8_does 191 = .ok (.aload_n 0, 1) := by decide +kernel
theorem dX8_does_192 : decode cX8_does 192 = .ok (.invokevirtual 306, 3) := by decide +kernel
theorem dX8_does_195 : decode cX8_does 195 = .ok (.ifCond .eq 7, 3) := by decide +kernel
theorem dX8_does_198 : decode cX8_does 198 = .ok (.iconst 1, 1) := by decide +kernel
theorem dX8_does_199 : decode cX8_does 199 = .ok (.goto 4, 3) := by decide +kernel
theorem dX8_does_202 : decode cX8_does 202 = .ok (.iconst 0, 1) := by decide +kernel
theorem dX8_does_203 : decode cX8_does 203 = .ok (.ireturn, 1) := by decide +kernel
theorem dX8_does_204 : decode cX8_does 204 = .ok (.aload_n 0, 1) := by decide +kernel
theorem dX8_does_205 : decode cX8_does 205 = .ok (.getfield 22, 3) := by decide +kernel
theorem dX8_does_208 : decode cX8_does 208 = .ok (.iload_n 3, 1) := by decide +kernel
theorem dX8_does_209 : decode cX8_does 209 = .ok (.iconst (-1), 1) := by decide +kernel
theorem dX8_does_210 : decode cX8_does 210 = .ok (.iastore, 1) := by decide +kernel
theorem dX8_does_211 : decode cX8_does 211 = .ok (.aload_n 0, 1) := by decide +kernel
theorem dX8_does_212 : decode cX8_does 212 = .ok (.getfield 12, 3) := by decide +kernel
theorem dX8_does_215 : decode cX8_does 215 = .ok (.iload_n 3, 1) := by decide +kernel
theorem dX8_does_216 : decode cX8_does 216 = .ok (.invokevirtual 303, 3) := by decide +kernel
theorem dX8_does_219 : decode cX8_does 219 = .ok (.ifCond .lt 7, 3) := by decide +kernel
theorem dX8_does_222 : decode cX8_does 222 = .ok (.iconst 1, 1) := by decide +kernel
theorem dX8_does_223 : decode cX8_does 223 = .ok (.goto 4, 3) := by decide +kernel
theorem dX8_does_226 : decode cX8_does 226 = .ok (.iconst 0, 1) := by decide +kernel
theorem dX8_does_227 : decode cX8_does 227 = .ok (.ireturn, 1) := by decide +kernel
theorem dX8_does_228 : decode cX8_does 228 = .ok (.iload_n 1, 1) := by decide +kernel
theorem dX8_does_229 : decode cX8_does 229 = .ok (.bipush 12, 2) := by decide +kernel
theorem dX8_does_231 : decode cX8_does 231 = .ok (.ishr, 1) := by decide +kernel
theorem dX8_does_232 : decode cX8_does 232 = .ok (.aload_n 0, 1) := by decide +kernel
theorem dX8_does_233 : decode cX8_does 233 = .ok (.getfield 28, 3) := by decide +kernel
theorem dX8_does_236 : decode cX8_does 236 = .ok (.iload_n 2, 1) := by decide +kernel
theorem dX8_does_237 : decode cX8_does 237 = .ok (.invokevirtual 129, 3) := by decide +kernel
theorem dX8_does_240 : decode cX8_does 240 = .ok (.checkcast 25, 3) := by decide +kernel
theorem dX8_does_243 : decode cX8_does 243 = .ok (.invokevirtual 171, 3) := by decide +kernel
theorem dX8_does_246 : decode cX8_does 246 = .ok (.invokestatic 39, 3) := by decide +kernel
theorem dX8_does_249 : decode cX8_does 249 = .ok (.istore 5, 2) := by decide +kernel
theorem dX8_does_251 : decode cX8_does 251 = .ok (.iload_n 1, 1) := by decide +kernel
theorem dX8_does_252 : decode cX8_does 252 = .ok (.bipush 14, 2) := by decide +kernel
theorem dX8_does_254 : decode cX8_does 254 = .ok (.ishr, 1) := by decide +kernel
theorem dX8_does_255 : decode cX8_does 255 = .ok (.iconst 4, 1) := by decide +kernel
theorem dX8_does_256 : decode cX8_does 256 = .ok (.invokestatic 39, 3) := by decide +kernel
theorem dX8_does_259 : decode cX8_does 259 = .ok (.istore 6, 2) := by decide +kernel
theorem dX8_does_261 : decode cX8_does 261 = .ok (.iload 6, 2) := by decide +kernel
theorem dX8_does_263 : decode cX8_does 263 = .ok (.iconst 2, 1) := by decide +kernel
theorem dX8_does_264 : decode cX8_does 264 = .ok (.if_icmp .ge 16, 3) := by decide +kernel
theorem dX8_does_267 : decode cX8_does 267 = .ok (.iload_n 1, 1) := by decide +kernel
theorem dX8_does_268 : decode cX8_does 268 = .ok (.bipush 16, 2) := by decide +kernel
theorem dX8_does_270 : decode cX8_does 270 = .ok (.ishr, 1) := by decide +kernel
theorem dX8_does_271 : decode cX8_does 271 = .ok (.sipush 5000, 3) := by decide +kernel
theorem dX8_does_274 : decode cX8_does 274 = .ok (.invokestatic 39, 3) := by decide +kernel
theorem dX8_does_277 : decode cX8_does 277 = .ok (.goto 14, 3) := by decide +kernel
theorem dX8_does_280 : decode cX8_does 280 = .ok (.iconst 1, 1) := by decide +kernel
theorem dX8_does_281 : decode cX8_does 281 = .ok (.iload_n 1, 1) := by decide +kernel
theorem dX8_does_282 : decode cX8_does 282 = .ok (.bipush 16, 2) := by decide +kernel
theorem dX8_does_284 : decode cX8_does 284 = .ok (.ishr, 1) := by decide +kernel
theorem dX8_does_285 : decode cX8_does 285 = .ok (.bipush 100, 2) := by decide +kernel
theorem dX8_does_287 : decode cX8_does 287 = .ok (.invokestatic 39, 3) := by decide +kernel
theorem dX8_does_290 : decode cX8_does 290 = .ok (.iadd, 1) := by decide +kernel
theorem dX8_does_291 : decode cX8_does 291 = .ok (.istore 7, 2) := by decide +kernel
theorem dX8_does_293 : decode cX8_does 293 = .ok (.aload_n 0, 1) := by decide +kernel
theorem dX8_does_294 : decode cX8_does 294 = .ok (.getfield 28, 3) := by decide +kernel
theorem dX8_does_297 : decode cX8_does 297 = .ok (.iload_n 2, 1) := by decide +kernel
theorem dX8_does_298 : decode cX8_does 298 = .ok (.invokevirtual 129, 3) := by decide +kernel
theorem dX8_does_301 : decode cX8_does 301 = .ok (.checkcast 25, 3) := by decide +kernel
theorem dX8_does_304 : decode cX8_does 304 = .ok (.iload 5, 2) := by decide +kernel
theorem dX8_does_306 : decode cX8_does 306 = .ok (.invokevirtual 129, 3) := by decide +kernel
theorem dX8_does_309 : decode cX8_does 309 = .ok (.checkcast 155, 3) := by decide +kernel
theorem dX8_does_312 : decode cX8_does 312 = .ok (.iload 6, 2) := by decide +kernel
theorem dX8_does_314 : decode cX8_does 314 = .ok (.iaload, 1) := by decide +kernel
theorem dX8_does_315 : decode cX8_does 315 = .ok (.istore 8, 2) := by decide +kernel
theorem dX8_does_317 : decode cX8_does 317 = .ok (.aload_n 0, 1) := by decide +kernel
theorem dX8_does_318 : decode cX8_does 318 = .ok (.getfield 28, 3) := by decide +kernel
theorem dX8_does_321 : decode cX8_does 321 = .ok (.iload_n 2, 1) := by decide +kernel
theorem dX8_does_322 : decode cX8_does 322 = .ok (.invokevirtual 129, 3) := by decide +kernel
theorem dX8_does_325 : decode cX8_does 325 = .ok (.checkcast 25, 3) := by decide +kernel
theorem dX8_does_328 : decode cX8_does 328 = .ok (.iload 5, 2) := by decide +kernel
theorem dX8_does_330 : decode cX8_does 330 = .ok (.invokevirtual 129, 3) := by decide +kernel
theorem dX8_does_333 : decode cX8_does 333 = .ok (.checkcast 155, 3) := by decide +kernel
theorem dX8_does_336 : decode cX8_does 336 = .ok (.iload 6, 2) := by decide +kernel
theorem dX8_does_338 : decode cX8_does 338 = .ok (.iload 7, 2) := by decide +kernel
theorem dX8_does_340 : decode cX8_does 340 = .ok (.iastore, 1) := by decide +kernel
theorem dX8_does_341 : decode cX8_does 341 = .ok (.aload_n 0, 1) := by decide +kernel
theorem dX8_does_342 : decode cX8_does 342 = .ok (.getfield 12, 3) := by decide +kernel
theorem dX8_does_345 : decode cX8_does 345 = .ok (.iload_n 2, 1) := by decide +kernel
theorem dX8_does_346 : decode cX8_does 346 = .ok (.iload 5, 2) := by decide +kernel
theorem dX8_does_348 : decode cX8_does 348 = .ok (.iload 6, 2) := by decide +kernel
theorem dX8_does_350 : decode cX8_does 350 = .ok (.iload 7, 2) := by decide +kernel
theorem dX8_does_352 : decode cX8_does 352 = .ok (.invokevirtual 309, 3) := by decide +kernel
theorem dX8_does_355 : decode cX8_does 355 = .ok (.iload 8, 2) := by decide +kernel
theorem dX8_does_357 : decode cX8_does 357 = .ok (.if_icmp .ne 7, 3) := by decide +kernel
theorem dX8_does_360 : decode cX8_does 360 = .ok (.iconst 1, 1) := by decide +kernel
theorem dX8_does_361 : decode cX8_does 361 = .ok (.goto 4, 3) := by decide +kernel
theorem dX8_does_364 : decode cX8_does 364 = .ok (.iconst 0, 1) := by decide +kernel
theorem dX8_does_365 : decode cX8_does 365 = .ok (.ireturn, 1) := by decide +kernel
theorem dX8_does_366 : decode cX8_does 366 = .ok (.iconst 4, 1) := by decide +kernel
theorem dX8_does_367 : decode cX8_does 367 = .ok (.newarray .int, 2) := by decide +kernel
theorem dX8_does_369 : decode cX8_does 369 = .ok (.dup, 1) := by decide +kernel
theorem dX8_does_370 : decode cX8_does 370 = .ok (.iconst 0, 1) := by decide +kernel
theorem dX8_does_371 : decode cX8_does 371 = .ok (.iload_n 1, 1) := by decide +kernel
theorem dX8_does_372 : decode cX8_does 372 = .ok (.iconst 5, 1) := by decide +kernel
theorem dX8_does_373 : decode cX8_does 373 = .ok (.ishr, 1) := by decide +kernel
theorem dX8_does_374 : decode cX8_does 374 = .ok (.sipush 4000, 3) := by decide +kernel
theorem dX8_does_377 : decode cX8_does 377 = .ok (.invokestatic 39, 3) := by decide +kernel
theorem dX8_does_380 : decode cX8_does 380 = .ok (.iastore, 1) := by decide +kernel
theorem dX8_does_381 : decode cX8_does 381 = .ok (.dup, 1) := by decide +kernel
theorem dX8_does_382 : decode cX8_does 382 = .ok (.iconst 1, 1) := by decide +kernel
theorem dX8_does_383 : decode cX8_does 383 = .ok (.iload_n 1, 1) := by decide +kernel
theorem dX8_does_384 : decode cX8_does 384 = .ok (.bipush 9, 2) := by decide +kernel
theorem dX8_does_386 : decode cX8_does 386 = .ok (.ishr, 1) := by decide +kernel
theorem dX8_does_387 : decode cX8_does 387 = .ok (.sipush 4000, 3) := by decide +kernel
theorem dX8_does_390 : decode cX8_does 390 = .ok (.invokestatic 39, 3) := by decide +kernel
theorem dX8_does_393 : decode cX8_does 393 = .ok (.iastore, 1) := by decide +kernel
theorem dX8_does_394 : decode cX8_does 394 = .ok (.dup, 1) := by decide +kernel
theorem dX8_does_395 : decode cX8_does 395 = .ok (.iconst 2, 1) := by decide +kernel
theorem dX8_does_396 : decode cX8_does 396 = .ok (.iconst 1, 1) := by decide +kernel
theorem dX8_does_397 : decode cX8_does 397 = .ok (.iload_n 1, 1) := by decide +kernel
theorem dX8_does_398 : decode cX8_does 398 = .ok (.bipush 12, 2) := by decide +kernel
theorem dX8_does_400 : decode cX8_does 400 = .ok (.ishr, 1) := by decide +kernel
theorem dX8_does_401 : decode cX8_does 401 = .ok (.bipush 100, 2) := by decide +kernel
theorem dX8_does_403 : decode cX8_does 403 = .ok (.invokestatic 39, 3) := by decide +kernel
theorem dX8_does_406 : decode cX8_does 406 = .ok (.iadd, 1) := by decide +kernel
theorem dX8_does_407 : decode cX8_does 407 = .ok (.iastore, 1) := by decide +kernel
theorem dX8_does_408 : decode cX8_does 408 = .ok (.dup, 1) := by decide +kernel
theorem dX8_does_409 : decode cX8_does 409 = .ok (.iconst 3, 1) := by decide +kernel
theorem dX8_does_410 : decode cX8_does 410 = .ok (.iconst 1, 1) := by decide +kernel
theorem dX8_does_411 : decode cX8_does 411 = .ok (.iload_n 1, 1) := by decide +kernel
theorem dX8_does_412 : decode cX8_does 412 = .ok (.bipush 16, 2) := by decide +kernel
theorem dX8_does_414 : decode cX8_does 414 = .ok (.ishr, 1) := by decide +kernel
theorem dX8_does_415 : decode cX8_does 415 = .ok (.bipush 100, 2) := by decide +kernel
theorem dX8_does_417 : decode cX8_does 417 = .ok (.invokestatic 39, 3) := by decide +kernel
theorem dX8_does_420 : decode cX8_does 420 = .ok (.iadd, 1) := by decide +kernel
theorem dX8_does_421 : decode cX8_does 421 = .ok (.iastore, 1) := by decide +kernel
theorem dX8_does_422 : decode cX8_does 422 = .ok (.astore 5, 2) := by decide +kernel
theorem dX8_does_424 : decode cX8_does 424 = .ok (.aload_n 0, 1) := by decide +kernel
theorem dX8_does_425 : decode cX8_does 425 = .ok (.getfield 28, 3) := by decide +kernel
theorem dX8_does_428 : decode cX8_does 428 = .ok (.iload_n 2, 1) := by decide +kernel
theorem dX8_does_429 : decode cX8_does 429 = .ok (.invokevirtual 129, 3) := by decide +kernel
theorem dX8_does_432 : decode cX8_does 432 = .ok (.checkcast 25, 3) := by decide +kernel
theorem dX8_does_435 : decode cX8_does 435 = .ok (.invokevirtual 171, 3) := by decide +kernel
theorem dX8_does_438 : decode cX8_does 438 = .ok (.bipush 8, 2) := by decide +kernel
theorem dX8_does_440 : decode cX8_does 440 = .ok (.if_icmp .ne 7, 3) := by decide +kernel
theorem dX8_does_443 : decode cX8_does 443 = .ok (.iconst 1, 1) := by decide +kernel
theorem dX8_does_444 : decode cX8_does 444 = .ok (.goto 4, 3) := by decide +kernel
theorem dX8_does_447 : decode cX8_does 447 = .ok (.iconst 0, 1) := by decide +kernel
theorem dX8_does_448 : decode cX8_does 448 = .ok (.istore 6, 2) := by decide +kernel
theorem dX8_does_450 : decode cX8_does 450 = .ok (.iload 6, 2) := by decide +kernel
theorem dX8_does_452 : decode cX8_does 452 = .ok (.ifCond .eq 45, 3) := by decide +kernel
theorem dX8_does_455 : decode cX8_does 455 = .ok (.aload_n 0, 1) := by decide +kernel
theorem dX8_does_456 : decode cX8_does 456 = .ok (.getfield 12, 3) := by decide +kernel
theorem dX8_does_459 : decode cX8_does 459 = .ok (.iload_n 2, 1) := by decide +kernel
theorem dX8_does_460 : decode cX8_does 460 = .ok (.aload 5, 2) := by decide +kernel
theorem dX8_does_462 : decode cX8_does 462 = .ok (.iconst 0, 1) := by decide +kernel
theorem dX8_does_463 : decode cX8_does 463 = .ok (.iaload, 1) := by decide +kernel
theorem dX8_does_464 : decode cX8_does 464 = .ok (.aload 5, 2) := by decide +kernel
theorem dX8_does_466 : decode cX8_does 466 = .ok (.iconst 1, 1) := by decide +kernel
theorem dX8_does_467 : decode cX8_does 467 = .ok (.iaload, 1) := by decide +kernel
theorem dX8_does_468 : decode cX8_does 468 = .ok (.aload 5, 2) := by decide +kernel
theorem dX8_does_470 : decode cX8_does 470 = .ok (.iconst 2, 1) := by decide +kernel
theorem dX8_does_471 : decode cX8_does 471 = .ok (.iaload, 1) := by decide +kernel
theorem dX8_does_472 : decode cX8_does 472 = .ok (.aload 5, 2) := by decide +kernel
theorem dX8_does_474 : decode cX8_does 474 = .ok (.iconst 3, 1) := by decide +kernel
theorem dX8_does_475 : decode cX8_does 475 = .ok (.iaload, 1) := by decide +kernel
theorem dX8_does_476 : decode cX8_does 476 = .ok (.invokevirtual 313, 3) := by decide +kernel
theorem dX8_does_479 : decode cX8_does 479 = .ok (.bipush (-3), 2) := by decide +kernel
theorem dX8_does_481 : decode cX8_does 481 = .ok (.if_icmp .ne 14, 3) := by decide +kernel
theorem dX8_does_484 : decode cX8_does 484 = .ok (.aload_n 0, 1) := by decide +kernel
theorem dX8_does_485 : decode cX8_does 485 = .ok (.invokevirtual 306, 3) := by decide +kernel
theorem dX8_does_488 : decode cX8_does 488 = .ok (.ifCond .eq 7, 3) := by decide +kernel
theorem dX8_does_491 : decode cX8_does 491 = .ok (.iconst 1, 1) := by decide +kernel
theorem dX8_does_492 : decode cX8_does 492 = .ok (.goto 4, 3) := by decide +kernel
theorem dX8_does_495 : decode cX8_does 495 = .ok (.iconst 0, 1) := by decide +kernel
theorem dX8_does_496 : decode cX8_does 496 = .ok (.ireturn, 1) := by decide +kernel
theorem dX8_does_497 : decode cX8_does 497 = .ok (.aload_n 0, 1) := by decide +kernel
theorem dX8_does_498 : decode cX8_does 498 = .ok (.getfield 28, 3) := by decide +kernel
theorem dX8_does_501 : decode cX8_does 501 = .ok (.iload_n 2, 1) := by decide +kernel
theorem dX8_does_502 : decode cX8_does 502 = .ok (.invokevirtual 129, 3) := by decide +kernel
theorem dX8_does_505 : decode cX8_does 505 = .ok (.checkcast 25, 3) := by decide +kernel
theorem dX8_does_508 : decode cX8_does 508 = .ok (.aload 5, 2) := by decide +kernel
theorem dX8_does_510 : decode cX8_does 510 = .ok (.invokevirtual 119, 3) := by decide +kernel
theorem dX8_does_513 : decode cX8_does 513 = .ok (.pop, 1) := by decide +kernel
theorem dX8_does_514 : decode cX8_does 514 = .ok (.aload_n 0, 1) := by decide +kernel
theorem dX8_does_515 : decode cX8_does 515 = .ok (.getfield 12, 3) := by decide +kernel
theorem dX8_does_518 : decode cX8_does 518 = .ok (.iload_n 2, 1) := by decide +kernel
theorem dX8_does_519 : decode cX8_does 519 = .ok (.aload 5, 2) := by decide +kernel
theorem dX8_does_521 : decode cX8_does 521 = .ok (.iconst 0, 1) := by decide +kernel
theorem dX8_does_522 : decode cX8_does 522 = .ok (.iaload, 1) := by decide +kernel
theorem dX8_does_523 : decode cX8_does 523 = .ok (.aload 5, 2) := by decide +kernel
theorem dX8_does_525 : decode cX8_does 525 = .ok (.iconst 1, 1) := by decide +kernel
theorem dX8_does_526 : decode cX8_does 526 = .ok (.iaload, 1) := by decide +kernel
theorem dX8_does_527 : decode cX8_does 527 = .ok (.aload 5, 2) := by decide +kernel
theorem dX8_does_529 : decode cX8_does 529 = .ok (.iconst 2, 1) := by decide +kernel
theorem dX8_does_530 : decode cX8_does 530 = .ok (.iaload, 1) := by decide +kernel
theorem dX8_does_531 : decode cX8_does 531 = .ok (.aload 5, 2) := by decide +kernel
theorem dX8_does_533 : decode cX8_does 533 = .ok (.iconst 3, 1) := by decide +kernel
theorem dX8_does_534 : decode cX8_does 534 = .ok (.iaload, 1) := by decide +kernel
theorem dX8_does_535 : decode cX8_does 535 = .ok (.invokevirtual 313, 3) := by decide +kernel
theorem dX8_does_538 : decode cX8_does 538 = .ok (.aload_n 0, 1) := by decide +kernel
theorem dX8_does_539 : decode cX8_does 539 = .ok (.getfield 28, 3) := by decide +kernel
theorem dX8_does_542 : decode cX8_does 542 = .ok (.iload_n 2, 1) := by decide +kernel
theorem dX8_does_543 : decode cX8_does 543 = .ok (.invokevirtual 129, 3) := by decide +kernel
theorem dX8_does_546 : decode cX8_does 546 = .ok (.checkcast 25, 3) := by decide +kernel
theorem dX8_does_549 : decode cX8_does 549 = .ok (.invokevirtual 171, 3) := by decide +kernel
theorem dX8_does_552 : decode cX8_does 552 = .ok (.if_icmp .ne 7, 3) := by decide +kernel
theorem dX8_does_555 : decode cX8_does 555 = .ok (.iconst 1, 1) := by decide +kernel
theorem dX8_does_556 : decode cX8_does 556 = .ok (.goto 4, 3) := by decide +kernel
theorem dX8_does_559 : decode cX8_does 559 = .ok (.iconst 0, 1) := by decide +kernel
theorem dX8_does_560 : decode cX8_does 560 = .ok (.ireturn, 1) := by decide +kernel
theorem dX8_does_561 : decode cX8_does 561 = .ok (.aload_n 0, 1) := by decide +kernel
theorem dX8_does_562 : decode cX8_does 562 = .ok (.getfield 58, 3) := by decide +kernel
theorem dX8_does_565 : decode cX8_does 565 = .ok (.iload_n 2, 1) := by decide +kernel
theorem dX8_does_566 : decode cX8_does 566 = .ok (.iload_n 1, 1) := by decide +kernel
theorem dX8_does_567 : decode cX8_does 567 = .ok (.bipush 12, 2) := by decide +kernel
theorem dX8_does_569 : decode cX8_does 569 = .ok (.ishr, 1) := by decide +kernel
theorem dX8_does_570 : decode cX8_does 570 = .ok (.iconst 3, 1) := by decide +kernel
theorem dX8_does_571 : decode cX8_does 571 = .ok (.invokestatic 39, 3) := by decide +kernel
theorem dX8_does_574 : decode cX8_does 574 = .ok (.ifCond .le 7, 3) := by decide +kernel
theorem dX8_does_577 : decode cX8_does 577 = .ok (.iconst 1, 1) := by decide +kernel
theorem dX8_does_578 : decode cX8_does 578 = .ok (.goto 4, 3) := by decide +kernel
theorem dX8_does_581 : decode cX8_does 581 = .ok (.iconst 0, 1) := by decide +kernel
theorem dX8_does_582 : decode cX8_does 582 = .ok (.bastore, 1) := by decide +kernel
theorem dX8_does_583 : decode cX8_does 583 = .ok (.aload_n 0, 1) := by decide +kernel
theorem dX8_does_584 : decode cX8_does 584 = .ok (.getfield 12, 3) := by decide +kernel
theorem dX8_does_587 : decode cX8_does 587 = .ok (.iload_n 2, 1) := by decide +kernel
theorem dX8_does_588 : decode cX8_does 588 = .ok (.aload_n 0, 1) := by decide +kernel
theorem dX8_does_589 : decode cX8_does 589 = .ok (.getfield 58, 3) := by decide +kernel
theorem dX8_does_592 : decode cX8_does 592 = .ok (.iload_n 2, 1) := by decide +kernel
theorem dX8_does_593 : decode cX8_does 593 = .ok (.baload, 1) := by decide +kernel
theorem dX8_does_594 : decode cX8_does 594 = .ok (.invokevirtual 316, 3) := by decide +kernel
theorem dX8_does_597 : decode cX8_does 597 = .ok (.aload_n 0, 1) := by decide +kernel
theorem dX8_does_598 : decode cX8_does 598 = .ok (.getfield 12, 3) := by decide +kernel
theorem dX8_does_601 : decode cX8_does 601 = .ok (.invokevirtual 212, 3) := by decide +kernel
theorem dX8_does_604 : decode cX8_does 604 = .ok (.if_icmp .ne 7, 3) := by decide +kernel
theorem dX8_does_607 : decode cX8_does 607 = .ok (.iconst 1, 1) := by decide +kernel
theorem dX8_does_608 : decode cX8_does 608 = .ok (.goto 4, 3) := by decide +kernel
theorem dX8_does_611 : decode cX8_does 611 = .ok (.iconst 0, 1) := by decide +kernel
theorem dX8_does_612 : decode cX8_does 612 = .ok (.ireturn, 1) := by decide +kernel
theorem dX8_does_613 : decode cX8_does 613 = .ok (.iload_n 1, 1) := by decide +kernel
theorem dX8_does_614 : decode cX8_does 614 = .ok (.bipush 12, 2) := by decide +kernel
theorem dX8_does_616 : decode cX8_does 616 = .ok (.ishr, 1) := by decide +kernel
theorem dX8_does_617 : decode cX8_does 617 = .ok (.iconst 2, 1) := by decide +kernel
theorem dX8_does_618 : decode cX8_does 618 = .ok (.invokestatic 39, 3) := by decide +kernel
theorem dX8_does_621 : decode cX8_does 621 = .ok (.istore 5, 2) := by decide +kernel
theorem dX8_does_623 : decode cX8_does 623 = .ok (.aload_n 0, 1) := by decide +kernel
theorem dX8_does_624 : decode cX8_does 624 = .ok (.getfield 18, 3) := by decide +kernel
theorem dX8_does_627 : decode cX8_does 627 = .ok (.iload 5, 2) := by decide +kernel
theorem dX8_does_629 : decode cX8_does 629 = .ok (.iaload, 1) := by decide +kernel
theorem dX8_does_630 : decode cX8_does 630 = .ok (.istore 6, 2) := by decide +kernel
theorem dX8_does_632 : decode cX8_does 632 = .ok (.aload_n 0, 1) := by decide +kernel
theorem dX8_does_633 : decode cX8_does 633 = .ok (.getfield 18, 3) := by decide +kernel
theorem dX8_does_636 : decode cX8_does 636 = .ok (.iload 5, 2) := by decide +kernel
theorem dX8_does_638 : decode cX8_does 638 = .ok (.iload_n 1, 1) := by decide +kernel
theorem dX8_does_639 : decode cX8_does 639 = .ok (.bipush 14, 2) := by decide +kernel
theorem dX8_does_641 : decode cX8_does 641 = .ok (.ishr, 1) := by decide +kernel
theorem dX8_does_642 : decode cX8_does 642 = .ok (.sipush 401, 3) := by decide +kernel
theorem dX8_does_645 : decode cX8_does 645 = .ok (.invokestatic 39, 3) := by decide +kernel
theorem dX8_does_648 : decode cX8_does 648 = .ok (.sipush 200, 3) := by decide +kernel
theorem dX8_does_651 : decode cX8_does 651 = .ok (.isub, 1) := by decide +kernel
theorem dX8_does_652 : decode cX8_does 652 = .ok (.iastore, 1) := by decide +kernel
theorem dX8_does_653 : decode cX8_does 653 = .ok (.aload_n 0, 1) := by decide +kernel
theorem dX8_does_654 : decode cX8_does 654 = .ok (.getfield 12, 3) := by decide +kernel
theorem dX8_does_657 : decode cX8_does 657 = .ok (.iload 5, 2) := by decide +kernel
theorem dX8_does_659 : decode cX8_does 659 = .ok (.aload_n 0, 1) := by decide +kernel
theorem dX8_does_660 : decode cX8_does 660 = .ok (.getfield 18, 3) := by decide +kernel
theorem dX8_does_663 : decode cX8_does 663 = .ok (.iload 5, 2) := by decide +kernel
theorem dX8_does_665 : decode cX8_does 665 = .ok (.iaload, 1) := by decide +kernel
theorem dX8_does_666 : decode cX8_does 666 = .ok (.invokevirtual 320, 3) := by decide +kernel
theorem dX8_does_669 : decode cX8_does 669 = .ok (.iload 6, 2) := by decide +kernel
theorem dX8_does_671 : decode cX8_does 671 = .ok (.if_icmp .ne 7, 3) := by decide +kernel
theorem dX8_does_674 : decode cX8_does 674 = .ok (.iconst 1, 1) := by decide +kernel
theorem dX8_does_675 : decode cX8_does 675 = .ok (.goto 4, 3) := by decide +kernel
theorem dX8_does_678 : decode cX8_does 678 = .ok (.iconst 0, 1) := by decide +kernel
theorem dX8_does_679 : decode cX8_does 679 = .ok (.ireturn, 1) := by decide +kernel
theorem dX8_does_680 : decode cX8_does 680 = .ok (.iconst 1, 1) := by decide +kernel
theorem dX8_does_681 : decode cX8_does 681 = .ok (.iload_n 1, 1) := by decide +kernel
theorem dX8_does_682 : decode cX8_does 682 = .ok (.bipush 12, 2) := by decide +kernel
theorem dX8_does_684 : decode cX8_does 684 = .ok (.ishr, 1) := by decide +kernel
theorem dX8_does_685 : decode cX8_does 685 = .ok (.bipush 30, 2) := by decide +kernel
theorem dX8_does_687 : decode cX8_does 687 = .ok (.invokestatic 39, 3) := by decide +kernel
theorem dX8_does_690 : decode cX8_does 690 = .ok (.iadd, 1) := by decide +kernel
theorem dX8_does_691 : decode cX8_does 691 = .ok (.istore 5, 2) := by decide +kernel
theorem dX8_does_693 : decode cX8_does 693 = .ok (.aload_n 0, 1) := by decide +kernel
theorem dX8_does_694 : decode cX8_does 694 = .ok (.getfield 12, 3) := by decide +kernel
theorem dX8_does_697 : decode cX8_does 697 = .ok (.iload 5, 2) := by decide +kernel
theorem dX8_does_699 : decode cX8_does 699 = .ok (.invokevirtual 323, 3) := by decide +kernel
theorem dX8_does_702 : decode cX8_does 702 = .ok (.aload_n 0, 1) := by decide +kernel
theorem dX8_does_703 : decode cX8_does 703 = .ok (.iload 5, 2) := by decide +kernel
theorem dX8_does_705 : decode cX8_does 705 = .ok (.invokevirtual 326, 3) := by decide +kernel
theorem dX8_does_708 : decode cX8_does 708 = .ok (.if_icmp .ne 7, 3) := by decide +kernel
theorem dX8_does_711 : decode cX8_does 711 = .ok (.iconst 1, 1) := by decide +kernel
theorem dX8_does_712 : decode cX8_does 712 = .ok (.goto 4, 3) := by decide +kernel
theorem dX8_does_715 : decode cX8_does 715 = .ok (.iconst 0, 1) := by decide +kernel
theorem dX8_does_716 : decode cX8_does 716 = .ok (.ireturn, 1) := by decide +kernel
def b_L_does_110 (x3 : Int32) (x5 : Int32) (x6 : Int32) (ν μ : gM) : Option ((Int32 × Int32) ⊕ (Int32)) :=
  if ((gi ν 0 1) ≤ x6) then some (.inr x5) else gchk (gIn x6 16) (if ((gi ν 2 x6.toNatClampNeg) < 0) then some (.inl ((x5 + (0 : Int32)), (x6 + (1 : Int32)))) else some (.inl ((x5 + (1 : Int32)), (x6 + (1 : Int32)))))
set_option maxHeartbeats 4000000 in
set_option maxRecDepth 100000 in
theorem wb_L_does_110 {p : Program} {l : Launch} {e : Env} {s : State} {m : MethodId} {args : Array Value} {below : List Frame} {meth : Method} {c : Code} {D : va_G} {cy : Nat → ClassId} {ad : Nat → Nat} {b : Nat} {la : Nat → Nat → Nat} {ν : gM} {o0 : Nat} {x3 : Int32} {x5 : Int32} {x6 : Int32} {μ : gM}  {o : (Int32 × Int32) ⊕ (Int32)} {RES : (Bool) × gM × gM} {cells slots C0 S0 CM SM : Nat} (h : b_L_does_110 x3 x5 x6 ν μ = some o) (F : gF p s m meth c cX8_does RX8 9 (some .boolean)) (E : hE l D cy ad b s) (hoo : la 0 0 = o0) (hc : cells + 0 ≤ C0) (hs : slots + 0 ≤ S0) (hcm : C0 ≤ CM) (hsm : S0 ≤ SM) (hcr : CM ≤ 6807) (hsr : SM ≤ 27244) (kc : ∀ (t : Int32 × Int32) {H : Heap} {locs : List Loc} {ls : Array Slot}, o = .inl t → hV D cy ad la b μ ν [] H → va_S (hA b) s.heap H locs → lv_has ls 9 [(0, .ref (la 0 0)), (3, .int x3), (5, .int t.1), (6, .int t.2)] → W p l e ({ frames := 7, cells := 6807, slots := 27244, locals := 161 } : Room) s m args below meth c H locs C0 S0 (MQ below (hQ b (fun rv H => ∃ la1 : Nat → Nat → Nat, rv = some (.int (b2i RES.1)) ∧ hV D cy ad la1 b RES.2.2 RES.2.1 [] H ∧ la1 0 0 = o0)) args s 6807 27244 (hA b)) (F0 m 110 ls [])) (kx : ∀ (t : Int32) {H : Heap} {locs : List Loc} {ls : Array Slot}, o = .inr t → hV D cy ad la b μ ν [] H → va_S (hA b) s.heap H locs → lv_has ls 9 [(0, .ref (la 0 0)), (3, .int x3), (5, .int t)] → W p l e ({ frames := 7, cells := 6807, slots := 27244, locals := 161 } : Room) s m args below meth c H locs CM SM (MQ below (hQ b (fun rv H => ∃ la1 : Nat → Nat → Nat, rv = some (.int (b2i RES.1)) ∧ hV D cy ad la1 b RES.2.2 RES.2.1 [] H ∧ la1 0 0 = o0)) args s 6807 27244 (hA b)) (F0 m 145 ls []))  {H : Heap} {locs : List Loc} {ls : Array Slot} (hM : hV D cy ad la b μ ν [] H) (hS : va_S (hA b) s.heap H locs) (hl : lv_has ls 9 [(0, .ref (la 0 0)), (3, .int x3), (5, .int x5), (6, .int x6)]) : W p l e ({ frames := 7, cells := 6807, slots := 27244, locals := 161 } : Room) s m args below meth c H locs cells slots (MQ below (hQ b (fun rv H => ∃ la1 : Nat → Nat → Nat, rv = some (.int (b2i RES.1)) ∧ hV D cy ad la1 b RES.2.2 RES.2.1 [] H ∧ la1 0 0 = o0)) args s 6807 27244 (hA b)) (F0 m 110 ls []) := by
  obtain ⟨hx, hb, hml, hown, hlocks, hr⟩ := id F
  obtain ⟨hs, hf, hM⟩ := hM
  have hY := lY_self (cy := cy) (ad := ad) (la := la) hs hf
  unfold b_L_does_110 at h
  refine lv_iload hx hb dX8_does_110 (lv_at hl 3 rfl) ?_
  refine lv_aload_n hx hb dX8_does_112 rfl (lv_at hl 0 rfl) ?_
  refine h_get hx hb hown E hM (hp_m (hY.c1 0 rfl)) gC_X8 1 (by decide) (v := .int (gi ν 0 1)) rfl kw_1025 dX8_does_113 ?_
  refine lv_icmp_ge (tgt := 145) hx hb dX8_does_116 (by decide) (fun c15 => ?_) (fun c15 => ?_)
  · replace h := gif_t c15 h
    refine W.widen (k := CM) (n := SM) (by omega) (by omega) ?_
    exact kx _ (Option.some.inj h).symm ⟨hs, hf, hM⟩ hS (lv_sub hl [0, 1, 2] rfl)
  · replace h := gif_f c15 h
    refine lv_iload hx hb dX8_does_119 (lv_at hl 2 rfl) ?_
    refine lv_aload_n hx hb dX8_does_121 rfl (lv_at hl 0 rfl) ?_
    refine h_get hx hb hown E hM (hp_m (hY.c1 0 rfl)) gC_X8 4 (by decide) (v := .ref (la 2 0)) rfl kw_1028 dX8_does_122 ?_
    refine lv_iload hx hb dX8_does_125 (lv_at hl 3 rfl) ?_
    obtain ⟨c16, h⟩ := gchk_e h
    refine l_iald hx hb E hM (hp_m (hY.c1 2 rfl)) c16 (v := (gi ν 2 x6.toNatClampNeg)) rfl dX8_does_127 ?_
    refine lv_if_lt (tgt := 135) hx hb dX8_does_128 (by decide) (fun c17 => ?_) (fun c17 => ?_)
    · replace h := gif_t c17 h
      refine lv_iconst (v := (0 : Int32)) hx hb dX8_does_135 (by decide) ?_
      refine lv_iadd hx hb dX8_does_136 ?_
      refine lv_istore (lv' := [(5, .int (x5 + (0 : Int32))), (0, .ref (la 0 0)), (3, .int x3), (6, .int x6)]) hx hb dX8_does_137 hl (by decide) rfl (fun ls hl => ?_)
      refine lv_iinc (v := (x6 + (1 : Int32))) (lv' := [(6, .int (x6 + (1 : Int32))), (5, .int (x5 + (0 : Int32))), (0, .ref (la 0 0)), (3, .int x3)]) hx hb dX8_does_139 hl (k := 3) rfl rfl (by decide) rfl (fun ls hl => ?_)
      refine lv_goto (tgt := 110) hx hb dX8_does_142 (by decide) ?_
      refine W.widen (k := C0) (n := S0) (by omega) (by omega) ?_
      exact kc _ (Option.some.inj h).symm ⟨hs, hf, hM⟩ hS (lv_sub hl [2, 3, 1, 0] rfl)
    · replace h := gif_f c17 h
      refine lv_iconst (v := (1 : Int32)) hx hb dX8_does_131 (by decide) ?_
      refine lv_goto (tgt := 136) hx hb dX8_does_132 (by decide) ?_
      refine lv_iadd hx hb dX8_does_136 ?_
      refine lv_istore (lv' := [(5, .int (x5 + (1 : Int32))), (0, .ref (la 0 0)), (3, .int x3), (6, .int x6)]) hx hb dX8_does_137 hl (by decide) rfl (fun ls hl => ?_)
      refine lv_iinc (v := (x6 + (1 : Int32))) (lv' := [(6, .int (x6 + (1 : Int32))), (5, .int (x5 + (1 : Int32))), (0, .ref (la 0 0)), (3, .int x3)]) hx hb dX8_does_139 hl (k := 3) rfl rfl (by decide) rfl (fun ls hl => ?_)
      refine lv_goto (tgt := 110) hx hb dX8_does_142 (by decide) ?_
      refine W.widen (k := C0) (n := S0) (by omega) (by omega) ?_
      exact kc _ (Option.some.inj h).symm ⟨hs, hf, hM⟩ hS (lv_sub hl [2, 3, 1, 0] rfl)
set_option maxHeartbeats 4000000 in
theorem wl_L_does_110 {p : Program} {l : Launch} {e : Env} {s : State} {m : MethodId} {args : Array Value} {below : List Frame} {meth : Method} {c : Code} {D : va_G} {cy : Nat → ClassId} {ad : Nat → Nat} {b : Nat} {la : Nat → Nat → Nat} {ν : gM} {o0 : Nat} {x3 : Int32}  {μ : gM}  {r : Int32} {RES : (Bool) × gM × gM} {CM SM : Nat} (F : gF p s m meth c cX8_does RX8 9 (some .boolean)) (E : hE l D cy ad b s) (hoo : la 0 0 = o0) (hcr : CM ≤ 6807) (hsr : SM ≤ 27244) (kx : ∀ (t : Int32) {H : Heap} {locs : List Loc} {ls : Array Slot}, r = t → hV D cy ad la b μ ν [] H → va_S (hA b) s.heap H locs → lv_has ls 9 [(0, .ref (la 0 0)), (3, .int x3), (5, .int t)] → W p l e ({ frames := 7, cells := 6807, slots := 27244, locals := 161 } : Room) s m args below meth c H locs CM SM (MQ below (hQ b (fun rv H => ∃ la1 : Nat → Nat → Nat, rv = some (.int (b2i RES.1)) ∧ hV D cy ad la1 b RES.2.2 RES.2.1 [] H ∧ la1 0 0 = o0)) args s 6807 27244 (hA b)) (F0 m 145 ls []))  : ∀ (n : Nat) (x5 : Int32) (x6 : Int32)  {cells slots : Nat}, cells + n * 0 ≤ CM → slots + n * 0 ≤ SM → gloop (fun t => b_L_does_110 x3 t.1 t.2 ν μ) n (x5, x6) = some r → ∀ {H : Heap} {locs : List Loc} {ls : Array Slot}, hV D cy ad la b μ ν [] H → va_S (hA b) s.heap H locs → lv_has ls 9 [(0, .ref (la 0 0)), (3, .int x3), (5, .int x5), (6, .int x6)] → W p l e ({ frames := 7, cells := 6807, slots := 27244, locals := 161 } : Room) s m args below meth c H locs cells slots (MQ below (hQ b (fun rv H => ∃ la1 : Nat → Nat → Nat, rv = some (.int (b2i RES.1)) ∧ hV D cy ad la1 b RES.2.2 RES.2.1 [] H ∧ la1 0 0 = o0)) args s 6807 27244 (hA b)) (F0 m 110 ls []) := by
  intro n
  induction n with
  | zero =>
    intro x5 x6 cells slots hc hs h
    exact (gloop_0 h).elim
  | succ n ih =>
    intro x5 x6 cells slots hc hs h H locs ls hM hS hl
    obtain ⟨o, h0, hcc, hq⟩ := gloop_s h
    have h1 : b_L_does_110 x3 x5 x6 ν μ = some o := h0
    exact wb_L_does_110 (C0 := cells + 0) (S0 := slots + 0) (CM := CM) (SM := SM) h1 F E hoo (by omega) (by omega) (by omega) (by omega) hcr hsr (fun t H locs ls ho hM hS hl => ih t.1 t.2 (by omega) (by omega) (hcc t ho) hM hS hl) (fun t H locs ls ho hM hS hl => kx t (hq _ ho).symm hM hS hl) hM hS hl
def j_L_does_291 (x2 : Int32) (x5 : Int32) (x6 : Int32) (y0 : Int32) (ν μ : gM) : Option ((Bool) × gM × gM) :=
  gchk (gIn x2 (lLn ν)) (gchk (gIn x5 (lSz ν x2.toNatClampNeg)) (gchk (gIn x6 4) (gchk (gIn x2 (lLn ν)) (gchk (gIn x5 (lSz ν x2.toNatClampNeg)) (gchk (gIn x6 4) (Option.bind (some (si ν (100 + 8 * x2.toNatClampNeg + x5.toNatClampNeg) x6.toNatClampNeg y0)) (fun ν45 => Option.bind (f_X7_setReading x2 x5 x6 y0 μ) (fun q46 => if (q46.1 = (gi ν (100 + 8 * x2.toNatClampNeg + x5.toNatClampNeg) x6.toNatClampNeg)) then some (true, ν45, q46.2) else some (false, ν45, q46.2)))))))))
set_option maxHeartbeats 4000000 in
set_option maxRecDepth 100000 in
theorem wj_L_does_291 {p : Program} {l : Launch} {e : Env} {s : State} {m : MethodId} {args : Array Value} {below : List Frame} {meth : Method} {c : Code} {D : va_G} {cy : Nat → ClassId} {ad : Nat → Nat} {b : Nat} {la : Nat → Nat → Nat} {ν : gM} {o0 : Nat} {x2 : Int32} {x5 : Int32} {x6 : Int32} {y0 : Int32} {μ : gM}  {o : (Bool) × gM × gM}  {cells slots : Nat} (h : j_L_does_291 x2 x5 x6 y0 ν μ = some o) (F : gF p s m meth c cX8_does RX8 9 (some .boolean)) (E : hE l D cy ad b s) (hoo : la 0 0 = o0) (hc : cells + 0 ≤ 6807) (hs : slots + 0 ≤ 27244) {H : Heap} {locs : List Loc} {ls : Array Slot} (hM : hV D cy ad la b μ ν [] H) (hS : va_S (hA b) s.heap H locs) (hl : lv_has ls 9 [(0, .ref (la 0 0)), (2, .int x2), (5, .int x5), (6, .int x6)]) : W p l e ({ frames := 7, cells := 6807, slots := 27244, locals := 161 } : Room) s m args below meth c H locs cells slots (MQ below (hQ b (fun rv H => ∃ la1 : Nat → Nat → Nat, rv = some (.int (b2i o.1)) ∧ hV D cy ad la1 b o.2.2 o.2.1 [] H ∧ la1 0 0 = o0)) args s 6807 27244 (hA b)) (F0 m 291 ls [.int y0]) := by
  obtain ⟨hx, hb, hml, hown, hlocks, hr⟩ := id F
  obtain ⟨hs, hf, hM⟩ := hM
  have hY := lY_self (cy := cy) (ad := ad) (la := la) hs hf
  unfold j_L_does_291 at h
  refine lv_istore (lv' := [(7, .int y0), (0, .ref (la 0 0)), (2, .int x2), (5, .int x5), (6, .int x6)]) hx hb dX8_does_291 hl (by decide) rfl (fun ls hl => ?_)
  refine lv_aload_n hx hb dX8_does_293 rfl (lv_at hl 1 rfl) ?_
  refine h_get hx hb hown E hM (hp_m (hY.c1 0 rfl)) gC_X8 8 (by decide) (v := .ref (la 6 0)) rfl kw_1032 dX8_does_294 ?_
  refine lv_iload_n hx hb dX8_does_297 rfl (lv_at hl 2 rfl) ?_
  obtain ⟨c39, h⟩ := gchk_e h
  refine h_callV (As := [.int x2]) (rest := []) hx hb (hml.trans hl.1.symm) hown E hM hS xy_Jx4a65c_get_915e3 kw_870 (cl_get hY c39) (hp_m (hY.c1 6 rfl)) gC_Jx4a65c.1 rfl rfl (Nat.le_of_ble_eq_true rfl) ⟨(Nat.le_of_ble_eq_true rfl), (Nat.le_of_ble_eq_true rfl)⟩ ⟨(show _ ≤ 6807 by omega), (show _ ≤ 27244 by omega)⟩ dX8_does_298 (fun rv H locs hZ hS => ?_)
  obtain ⟨rfl, hM⟩ := hZ
  refine h_castY hx hb hown E hM (hp_m (hY.c2 c39.2 1 rfl)) gC_Jx4a65c kw_511 dX8_does_301 ?_
  refine lv_iload hx hb dX8_does_304 (lv_at hl 3 rfl) ?_
  obtain ⟨c40, h⟩ := gchk_e h
  refine h_callV (As := [.int x5]) (rest := []) hx hb (hml.trans hl.1.symm) hown E hM hS xy_Jx4a65c_get_915e3 kw_870 (cl_get2 hY c39.2 c40) (hp_m (hY.c2 c39.2 1 rfl)) gC_Jx4a65c.1 rfl rfl (Nat.le_of_ble_eq_true rfl) ⟨(Nat.le_of_ble_eq_true rfl), (Nat.le_of_ble_eq_true rfl)⟩ ⟨(show _ ≤ 6807 by omega), (show _ ≤ 27244 by omega)⟩ dX8_does_306 (fun rv H locs hZ hS => ?_)
  obtain ⟨rfl, hM⟩ := hZ
  refine h_castI hx hb hown E hM (hp_m (hY.c3 c39.2 c40.2)) kw_1196 dX8_does_309 ?_
  refine lv_iload hx hb dX8_does_312 (lv_at hl 4 rfl) ?_
  obtain ⟨c41, h⟩ := gchk_e h
  refine l_iald hx hb E hM (hp_m (hY.c3 c39.2 c40.2)) c41 (v := (gi ν (100 + 8 * x2.toNatClampNeg + x5.toNatClampNeg) x6.toNatClampNeg)) rfl dX8_does_314 ?_
  refine lv_istore (lv' := [(8, .int (gi ν (100 + 8 * x2.toNatClampNeg + x5.toNatClampNeg) x6.toNatClampNeg)), (7, .int y0), (0, .ref (la 0 0)), (2, .int x2), (5, .int x5), (6, .int x6)]) hx hb dX8_does_315 hl (by decide) rfl (fun ls hl => ?_)
  refine lv_aload_n hx hb dX8_does_317 rfl (lv_at hl 2 rfl) ?_
  refine h_get hx hb hown E hM (hp_m (hY.c1 0 rfl)) gC_X8 8 (by decide) (v := .ref (la 6 0)) rfl kw_1032 dX8_does_318 ?_
  refine lv_iload_n hx hb dX8_does_321 rfl (lv_at hl 3 rfl) ?_
  obtain ⟨c42, h⟩ := gchk_e h
  refine h_callV (As := [.int x2]) (rest := []) hx hb (hml.trans hl.1.symm) hown E hM hS xy_Jx4a65c_get_915e3 kw_870 (cl_get hY c42) (hp_m (hY.c1 6 rfl)) gC_Jx4a65c.1 rfl rfl (Nat.le_of_ble_eq_true rfl) ⟨(Nat.le_of_ble_eq_true rfl), (Nat.le_of_ble_eq_true rfl)⟩ ⟨(show _ ≤ 6807 by omega), (show _ ≤ 27244 by omega)⟩ dX8_does_322 (fun rv H locs hZ hS => ?_)
  obtain ⟨rfl, hM⟩ := hZ
  refine h_castY hx hb hown E hM (hp_m (hY.c2 c42.2 1 rfl)) gC_Jx4a65c kw_511 dX8_does_325 ?_
  refine lv_iload hx hb dX8_does_328 (lv_at hl 4 rfl) ?_
  obtain ⟨c43, h⟩ := gchk_e h
  refine h_callV (As := [.int x5]) (rest := []) hx hb (hml.trans hl.1.symm) hown E hM hS xy_Jx4a65c_get_915e3 kw_870 (cl_get2 hY c42.2 c43) (hp_m (hY.c2 c42.2 1 rfl)) gC_Jx4a65c.1 rfl rfl (Nat.le_of_ble_eq_true rfl) ⟨(Nat.le_of_ble_eq_true rfl), (Nat.le_of_ble_eq_true rfl)⟩ ⟨(show _ ≤ 6807 by omega), (show _ ≤ 27244 by omega)⟩ dX8_does_330 (fun rv H locs hZ hS => ?_)
  obtain ⟨rfl, hM⟩ := hZ
  refine h_castI hx hb hown E hM (hp_m (hY.c3 c42.2 c43.2)) kw_1196 dX8_does_333 ?_
  refine lv_iload hx hb dX8_does_336 (lv_at hl 5 rfl) ?_
  refine lv_iload hx hb dX8_does_338 (lv_at hl 1 rfl) ?_
  obtain ⟨c44, h⟩ := gchk_e h
  refine lw_setup hx hb E hs hM hS (hY.sz c42.2).1 c43.2 c44 dX8_does_340 (fun H locs hM hS => ?_)
  obtain ⟨ν45, hν45, h⟩ := gupd h
  rw [← hν45] at hM
  replace hf : lF ν45 := by rw [hν45]; exact (si_F (by unfold okid; omega) hs hf)
  replace hs : lS ν45 := by rw [hν45]; exact (si_S (by unfold okid; omega) hs)
  have hY := lY_self (cy := cy) (ad := ad) (la := la) hs hf
  refine lv_aload_n hx hb dX8_does_341 rfl (lv_at hl 2 rfl) ?_
  refine h_get hx hb hown E hM (hp_m (hY.c1 0 rfl)) gC_X8 0 (by decide) (v := .ref (ad 0)) rfl kw_1023 dX8_does_342 ?_
  refine lv_iload_n hx hb dX8_does_345 rfl (lv_at hl 3 rfl) ?_
  refine lv_iload hx hb dX8_does_346 (lv_at hl 4 rfl) ?_
  refine lv_iload hx hb dX8_does_348 (lv_at hl 5 rfl) ?_
  refine lv_iload hx hb dX8_does_350 (lv_at hl 1 rfl) ?_
  obtain ⟨q46, hq46, h⟩ := gbind_e h
  refine h_callC (As := [.int x2, .int x5, .int x6, .int y0]) (rest := []) hx hb (hml.trans hl.1.symm) hown E hM hS hy_X7_setReading kw_1517 (c_X7_setReading hq46) hk_0 dd_0 rfl rfl rfl (Nat.le_of_ble_eq_true rfl) ⟨(Nat.le_of_ble_eq_true rfl), (Nat.le_of_ble_eq_true rfl)⟩ ⟨(show _ ≤ 6807 by omega), (show _ ≤ 27244 by omega)⟩ dX8_does_352 (fun H locs hM hS => ?_)
  refine lv_iload hx hb dX8_does_355 (lv_at hl 0 rfl) ?_
  refine lv_icmp_ne (tgt := 364) hx hb dX8_does_357 (by decide) (fun c47 => ?_) (fun c47 => ?_)
  · replace h := gif_f c47 h
    refine lv_iconst (v := (0 : Int32)) hx hb dX8_does_364 (by decide) ?_
    obtain rfl := Option.some.inj h
    exact h_zret (v := b2i false) hx hb hr hlocks (by omega) (by omega) (b2i_nar false) ⟨_, rfl, ⟨hs, hf, hW.drop hM⟩, hoo⟩ hS dX8_does_365
  · replace h := gif_t c47 h
    refine lv_iconst (v := (1 : Int32)) hx hb dX8_does_360 (by decide) ?_
    refine lv_goto (tgt := 365) hx hb dX8_does_361 (by decide) ?_
    obtain rfl := Option.some.inj h
    exact h_zret (v := b2i true) hx hb hr hlocks (by omega) (by omega) (b2i_nar true) ⟨_, rfl, ⟨hs, hf, hW.drop hM⟩, hoo⟩ hS dX8_does_365
def j_L_does_448 (x2 : Int32) (y0 : Int32) (z0 : Nat → Int32) (ν μ : gM) : Option ((Bool) × gM × gM) :=
  if (y0 = 0) then gchk (gIn x2 (lLn ν)) (gchk (lSz ν x2.toNatClampNeg < 8) (Option.bind (some (lgrow ν x2.toNatClampNeg z0)) (fun ν63 => Option.bind (f_X7_addSetup x2 (gi ν63 (100 + 8 * x2.toNatClampNeg + (lSz ν x2.toNatClampNeg)) 0) (gi ν63 (100 + 8 * x2.toNatClampNeg + (lSz ν x2.toNatClampNeg)) 1) (gi ν63 (100 + 8 * x2.toNatClampNeg + (lSz ν x2.toNatClampNeg)) 2) (gi ν63 (100 + 8 * x2.toNatClampNeg + (lSz ν x2.toNatClampNeg)) 3) μ) (fun q69 => gchk (gIn x2 (lLn ν63)) (if (q69.1 = (nI (lSz ν63 x2.toNatClampNeg))) then some (true, ν63, q69.2) else some (false, ν63, q69.2)))))) else Option.bind (f_X7_addSetup x2 (z0 0) (z0 1) (z0 2) (z0 3) μ) (fun q76 => if (q76.1 = (-3 : Int32)) then Option.bind (f_L_restores  ν q76.2) (fun q78 => if ((b2i q78.1) = 0) then some (false, q78.2, q76.2) else some (true, q78.2, q76.2)) else some (false, ν, q76.2))
set_option maxHeartbeats 4000000 in
set_option maxRecDepth 100000 in
theorem wj_L_does_448 {p : Program} {l : Launch} {e : Env} {s : State} {m : MethodId} {args : Array Value} {below : List Frame} {meth : Method} {c : Code} {D : va_G} {cy : Nat → ClassId} {ad : Nat → Nat} {b : Nat} {la : Nat → Nat → Nat} {ν : gM} {o0 : Nat} {x2 : Int32} {y0 : Int32} {z0 : Nat → Int32} {μ : gM} {a49 : Nat} {o : (Bool) × gM × gM}  {cells slots : Nat} (h : j_L_does_448 x2 y0 z0 ν μ = some o) (F : gF p s m meth c cX8_does RX8 9 (some .boolean)) (E : hE l D cy ad b s) (hoo : la 0 0 = o0) (hc : cells + 1 ≤ 6807) (hs : slots + 8 ≤ 27244) {H : Heap} {locs : List Loc} {ls : Array Slot} (hM : hV D cy ad la b μ ν [(a49, .inl (cy 0, 4, .inl z0))] H) (hS : va_S (hA b) s.heap H locs) (hl : lv_has ls 9 [(0, .ref (la 0 0)), (2, .int x2), (5, .ref a49)]) : W p l e ({ frames := 7, cells := 6807, slots := 27244, locals := 161 } : Room) s m args below meth c H locs cells slots (MQ below (hQ b (fun rv H => ∃ la1 : Nat → Nat → Nat, rv = some (.int (b2i o.1)) ∧ hV D cy ad la1 b o.2.2 o.2.1 [] H ∧ la1 0 0 = o0)) args s 6807 27244 (hA b)) (F0 m 448 ls [.int y0]) := by
  obtain ⟨hx, hb, hml, hown, hlocks, hr⟩ := id F
  obtain ⟨hs, hf, hM⟩ := hM
  have hY := lY_self (cy := cy) (ad := ad) (la := la) hs hf
  unfold j_L_does_448 at h
  refine lv_istore (lv' := [(6, .int y0), (0, .ref (la 0 0)), (2, .int x2), (5, .ref a49)]) hx hb dX8_does_448 hl (by decide) rfl (fun ls hl => ?_)
  refine lv_iload hx hb dX8_does_450 (lv_at hl 0 rfl) ?_
  refine lv_if_eq (tgt := 497) hx hb dX8_does_452 (by decide) (fun c60 => ?_) (fun c60 => ?_)
  · replace h := gif_t c60 h
    refine lv_aload_n hx hb dX8_does_497 rfl (lv_at hl 1 rfl) ?_
    refine h_get hx hb hown E hM (hp_m (hY.c1 0 rfl)) gC_X8 8 (by decide) (v := .ref (la 6 0)) rfl kw_1032 dX8_does_498 ?_
    refine lv_iload_n hx hb dX8_does_501 rfl (lv_at hl 2 rfl) ?_
    obtain ⟨c61, h⟩ := gchk_e h
    replace hM := hW.low (T := [(a49, .inl (cy 0, 4, .inl z0))]) hM
    refine h_callV (As := [.int x2]) (rest := []) hx hb (hml.trans hl.1.symm) hown E hM hS xy_Jx4a65c_get_915e3 kw_870 (cl_get (hY.app _) c61) (hp_m ((hY.app _).c1 6 rfl)) gC_Jx4a65c.1 rfl rfl (Nat.le_of_ble_eq_true rfl) ⟨(Nat.le_of_ble_eq_true rfl), (Nat.le_of_ble_eq_true rfl)⟩ ⟨(show _ ≤ 6807 by omega), (show _ ≤ 27244 by omega)⟩ dX8_does_502 (fun rv H locs hZ hS => ?_)
    obtain ⟨rfl, hM⟩ := hZ
    replace hM := hW.up (T := [(a49, .inl (cy 0, 4, .inl z0))]) hM
    refine h_castY hx hb hown E hM (hp_m (hY.c2 c61.2 1 rfl)) gC_Jx4a65c kw_511 dX8_does_505 ?_
    refine lv_aload hx hb dX8_does_508 (lv_at hl 3 rfl) ?_
    obtain ⟨c62, h⟩ := gchk_e h
    have hnd := lw_nd hM
    have hL9 := hs.2.2.1.1
    have hk1 := (hY.sz c61.2).1
    have hk0 := (hY.sz c61.2).2.2.1
    have hk9 := c61.2
    have hM9 := ladd_pre hk1 hk0 hM
    refine h_callV (As := [.ref a49]) (rest := []) hx hb (hml.trans hl.1.symm) hown E hM9 hS xy_Jx4a65c_add_9ea2d kw_819 (c_addA (List.mem_append_right _ List.mem_cons_self) (by omega) (by omega)) (ht_m List.mem_cons_self) gC_Jx4a65c.1 rfl rfl (Nat.le_of_ble_eq_true rfl) ⟨(Nat.le_of_ble_eq_true rfl), (Nat.le_of_ble_eq_true rfl)⟩ ⟨(show _ ≤ 6807 by omega), (show _ ≤ 27244 by omega)⟩ dX8_does_510 (fun rv H locs hZ hS => ?_)
    obtain ⟨rfl, hM⟩ := hZ
    replace hM := ladd_post hs hk1 hk0 c62 hnd hM
    obtain ⟨ν63, hν63, h⟩ := gupd h
    rw [← hν63] at hM
    replace hf : lF ν63 := by rw [hν63]; exact (lgrow_F hs hf hk1 c62)
    replace hs : lS ν63 := by rw [hν63]; exact (lgrow_S hs hk1 c62)
    obtain ⟨la64, hla64⟩ : ∃ x, x = lset la (100 + x2.toNatClampNeg) (lSz ν x2.toNatClampNeg) a49 := ⟨_, rfl⟩
    rw [← hla64] at hM
    have ho1 : la64 0 0 = la 0 0 := by rw [hla64, lset_ne (by omega)]
    replace hoo := ho1.trans hoo
    rw [← ho1] at hl
    have hY := lY_self (cy := cy) (ad := ad) (la := la64) hs hf
    have hrow := l_rowm (k := x2.toNatClampNeg) hY hla64 hν63 hk1 hk9 c62 hL9
    refine lv_pop hx hb dX8_does_513 rfl ?_
    refine lv_aload_n hx hb dX8_does_514 rfl (lv_at hl 1 rfl) ?_
    refine h_get hx hb hown E hM (hp_m (hY.c1 0 rfl)) gC_X8 0 (by decide) (v := .ref (ad 0)) rfl kw_1023 dX8_does_515 ?_
    refine lv_iload_n hx hb dX8_does_518 rfl (lv_at hl 2 rfl) ?_
    refine lv_aload hx hb dX8_does_519 (lv_at hl 3 rfl) ?_
    refine lv_iconst (v := (0 : Int32)) hx hb dX8_does_521 (by decide) ?_
    refine l_iald hx hb E hM (hp_m hrow) (⟨by decide, by decide⟩ : gIn (0 : Int32) 4) (v := (gi ν63 (100 + 8 * x2.toNatClampNeg + (lSz ν x2.toNatClampNeg)) 0)) (congrArg (ν63.1 (100 + 8 * x2.toNatClampNeg + (lSz ν x2.toNatClampNeg))) (by decide : (0 : Int32).toNatClampNeg = 0)) dX8_does_522 ?_
    refine lv_aload hx hb dX8_does_523 (lv_at hl 3 rfl) ?_
    refine lv_iconst (v := (1 : Int32)) hx hb dX8_does_525 (by decide) ?_
    refine l_iald hx hb E hM (hp_m hrow) (⟨by decide, by decide⟩ : gIn (1 : Int32) 4) (v := (gi ν63 (100 + 8 * x2.toNatClampNeg + (lSz ν x2.toNatClampNeg)) 1)) (congrArg (ν63.1 (100 + 8 * x2.toNatClampNeg + (lSz ν x2.toNatClampNeg))) (by decide : (1 : Int32).toNatClampNeg = 1)) dX8_does_526 ?_
    refine lv_aload hx hb dX8_does_527 (lv_at hl 3 rfl) ?_
    refine lv_iconst (v := (2 : Int32)) hx hb dX8_does_529 (by decide) ?_
    refine l_iald hx hb E hM (hp_m hrow) (⟨by decide, by decide⟩ : gIn (2 : Int32) 4) (v := (gi ν63 (100 + 8 * x2.toNatClampNeg + (lSz ν x2.toNatClampNeg)) 2)) (congrArg (ν63.1 (100 + 8 * x2.toNatClampNeg + (lSz ν x2.toNatClampNeg))) (by decide : (2 : Int32).toNatClampNeg = 2)) dX8_does_530 ?_
    refine lv_aload hx hb dX8_does_531 (lv_at hl 3 rfl) ?_
    refine lv_iconst (v := (3 : Int32)) hx hb dX8_does_533 (by decide) ?_
    refine l_iald hx hb E hM (hp_m hrow) (⟨by decide, by decide⟩ : gIn (3 : Int32) 4) (v := (gi ν63 (100 + 8 * x2.toNatClampNeg + (lSz ν x2.toNatClampNeg)) 3)) (congrArg (ν63.1 (100 + 8 * x2.toNatClampNeg + (lSz ν x2.toNatClampNeg))) (by decide : (3 : Int32).toNatClampNeg = 3)) dX8_does_534 ?_
    obtain ⟨q69, hq69, h⟩ := gbind_e h
    refine h_callC (As := [.int x2, .int (gi ν63 (100 + 8 * x2.toNatClampNeg + (lSz ν x2.toNatClampNeg)) 0), .int (gi ν63 (100 + 8 * x2.toNatClampNeg + (lSz ν x2.toNatClampNeg)) 1), .int (gi ν63 (100 + 8 * x2.toNatClampNeg + (lSz ν x2.toNatClampNeg)) 2), .int (gi ν63 (100 + 8 * x2.toNatClampNeg + (lSz ν x2.toNatClampNeg)) 3)]) (rest := []) hx hb (hml.trans hl.1.symm) hown E hM hS hy_X7_addSetup kw_1527 (c_X7_addSetup hq69) hk_0 dd_0 rfl rfl rfl (Nat.le_of_ble_eq_true rfl) ⟨(Nat.le_of_ble_eq_true rfl), (Nat.le_of_ble_eq_true rfl)⟩ ⟨(show _ ≤ 6807 by omega), (show _ ≤ 27244 by omega)⟩ dX8_does_535 (fun H locs hM hS => ?_)
    refine lv_aload_n hx hb dX8_does_538 rfl (lv_at hl 1 rfl) ?_
    refine h_get hx hb hown E hM (hp_m (hY.c1 0 rfl)) gC_X8 8 (by decide) (v := .ref (la64 6 0)) rfl kw_1032 dX8_does_539 ?_
    refine lv_iload_n hx hb dX8_does_542 rfl (lv_at hl 2 rfl) ?_
    obtain ⟨c70, h⟩ := gchk_e h
    refine h_callV (As := [.int x2]) (rest := [.int q69.1]) hx hb (hml.trans hl.1.symm) hown E hM hS xy_Jx4a65c_get_915e3 kw_870 (cl_get hY c70) (hp_m (hY.c1 6 rfl)) gC_Jx4a65c.1 rfl rfl (Nat.le_of_ble_eq_true rfl) ⟨(Nat.le_of_ble_eq_true rfl), (Nat.le_of_ble_eq_true rfl)⟩ ⟨(show _ ≤ 6807 by omega), (show _ ≤ 27244 by omega)⟩ dX8_does_543 (fun rv H locs hZ hS => ?_)
    obtain ⟨rfl, hM⟩ := hZ
    refine h_castY hx hb hown E hM (hp_m (hY.c2 c70.2 1 rfl)) gC_Jx4a65c kw_511 dX8_does_546 ?_
    refine h_callV (As := []) (rest := [.int q69.1]) hx hb (hml.trans hl.1.symm) hown E hM hS xy_Jx4a65c_size_8abf5 kw_1212 (cl_size hY c70.2) (hp_m (hY.c2 c70.2 1 rfl)) gC_Jx4a65c.1 rfl rfl (Nat.le_of_ble_eq_true rfl) ⟨(Nat.le_of_ble_eq_true rfl), (Nat.le_of_ble_eq_true rfl)⟩ ⟨(show _ ≤ 6807 by omega), (show _ ≤ 27244 by omega)⟩ dX8_does_549 (fun rv H locs hZ hS => ?_)
    obtain ⟨rfl, hM⟩ := hZ
    refine lv_icmp_ne (tgt := 559) hx hb dX8_does_552 (by decide) (fun c71 => ?_) (fun c71 => ?_)
    · replace h := gif_f c71 h
      refine lv_iconst (v := (0 : Int32)) hx hb dX8_does_559 (by decide) ?_
      obtain rfl := Option.some.inj h
      exact h_zret (v := b2i false) hx hb hr hlocks (by omega) (by omega) (b2i_nar false) ⟨_, rfl, ⟨hs, hf, hW.drop hM⟩, hoo⟩ hS dX8_does_560
    · replace h := gif_t c71 h
      refine lv_iconst (v := (1 : Int32)) hx hb dX8_does_555 (by decide) ?_
      refine lv_goto (tgt := 560) hx hb dX8_does_556 (by decide) ?_
      obtain rfl := Option.some.inj h
      exact h_zret (v := b2i true) hx hb hr hlocks (by omega) (by omega) (b2i_nar true) ⟨_, rfl, ⟨hs, hf, hW.drop hM⟩, hoo⟩ hS dX8_does_560
  · replace h := gif_f c60 h
    refine lv_aload_n hx hb dX8_does_455 rfl (lv_at hl 1 rfl) ?_
    refine h_get hx hb hown E hM (hp_m (hY.c1 0 rfl)) gC_X8 0 (by decide) (v := .ref (ad 0)) rfl kw_1023 dX8_does_456 ?_
    refine lv_iload_n hx hb dX8_does_459 rfl (lv_at hl 2 rfl) ?_
    refine lv_aload hx hb dX8_does_460 (lv_at hl 3 rfl) ?_
    refine lv_iconst (v := (0 : Int32)) hx hb dX8_does_462 (by decide) ?_
    refine l_iald hx hb E hM (ht_m List.mem_cons_self) (⟨by decide, by decide⟩ : gIn (0 : Int32) 4) (v := (z0 0)) (congrArg z0 (by decide : (0 : Int32).toNatClampNeg = 0)) dX8_does_463 ?_
    refine lv_aload hx hb dX8_does_464 (lv_at hl 3 rfl) ?_
    refine lv_iconst (v := (1 : Int32)) hx hb dX8_does_466 (by decide) ?_
    refine l_iald hx hb E hM (ht_m List.mem_cons_self) (⟨by decide, by decide⟩ : gIn (1 : Int32) 4) (v := (z0 1)) (congrArg z0 (by decide : (1 : Int32).toNatClampNeg = 1)) dX8_does_467 ?_
    refine lv_aload hx hb dX8_does_468 (lv_at hl 3 rfl) ?_
    refine lv_iconst (v := (2 : Int32)) hx hb dX8_does_470 (by decide) ?_
    refine l_iald hx hb E hM (ht_m List.mem_cons_self) (⟨by decide, by decide⟩ : gIn (2 : Int32) 4) (v := (z0 2)) (congrArg z0 (by decide : (2 : Int32).toNatClampNeg = 2)) dX8_does_471 ?_
    refine lv_aload hx hb dX8_does_472 (lv_at hl 3 rfl) ?_
    refine lv_iconst (v := (3 : Int32)) hx hb dX8_does_474 (by decide) ?_
    refine l_iald hx hb E hM (ht_m List.mem_cons_self) (⟨by decide, by decide⟩ : gIn (3 : Int32) 4) (v := (z0 3)) (congrArg z0 (by decide : (3 : Int32).toNatClampNeg = 3)) dX8_does_475 ?_
    obtain ⟨q76, hq76, h⟩ := gbind_e h
    refine h_callC (As := [.int x2, .int (z0 0), .int (z0 1), .int (z0 2), .int (z0 3)]) (rest := []) hx hb (hml.trans hl.1.symm) hown E hM hS hy_X7_addSetup kw_1527 (c_X7_addSetup hq76) hk_0 dd_0 rfl rfl rfl (Nat.le_of_ble_eq_true rfl) ⟨(Nat.le_of_ble_eq_true rfl), (Nat.le_of_ble_eq_true rfl)⟩ ⟨(show _ ≤ 6807 by omega), (show _ ≤ 27244 by omega)⟩ dX8_does_476 (fun H locs hM hS => ?_)
    refine lv_bipush (v := (-3 : Int32)) hx hb dX8_does_479 (by decide) ?_
    refine lv_icmp_ne (tgt := 495) hx hb dX8_does_481 (by decide) (fun c77 => ?_) (fun c77 => ?_)
    · replace h := gif_f c77 h
      refine lv_iconst (v := (0 : Int32)) hx hb dX8_does_495 (by decide) ?_
      obtain rfl := Option.some.inj h
      exact h_zret (v := b2i false) hx hb hr hlocks (by omega) (by omega) (b2i_nar false) ⟨_, rfl, ⟨hs, hf, hW.drop hM⟩, hoo⟩ hS dX8_does_496
    · replace h := gif_t c77 h
      refine lv_aload_n hx hb dX8_does_484 rfl (lv_at hl 1 rfl) ?_
      obtain ⟨q78, hq78, h⟩ := gbind_e h
      replace hM := hW.drop hM
      refine h_callV (As := []) (rest := []) hx hb (hml.trans hl.1.symm) hown E hM hS xy_X8_restores kw_1513 (c_L_restores hs hf hq78) (hp_m (hY.c1 0 rfl)) gC_X8.1 rfl rfl (Nat.le_of_ble_eq_true rfl) ⟨(Nat.le_of_ble_eq_true rfl), (Nat.le_of_ble_eq_true rfl)⟩ ⟨(show _ ≤ 6807 by omega), (show _ ≤ 27244 by omega)⟩ dX8_does_485 (fun rv H locs hZ hS => ?_)
      obtain ⟨la79, rfl, ⟨hs, hf, hM⟩, ho1⟩ := hZ
      replace hoo := ho1.trans hoo
      rw [← ho1] at hl
      have hY := lY_self (cy := cy) (ad := ad) (la := la79) hs hf
      refine lv_if_eq (tgt := 495) hx hb dX8_does_488 (by decide) (fun c80 => ?_) (fun c80 => ?_)
      · replace h := gif_t c80 h
        refine lv_iconst (v := (0 : Int32)) hx hb dX8_does_495 (by decide) ?_
        obtain rfl := Option.some.inj h
        exact h_zret (v := b2i false) hx hb hr hlocks (by omega) (by omega) (b2i_nar false) ⟨_, rfl, ⟨hs, hf, hW.drop hM⟩, hoo⟩ hS dX8_does_496
      · replace h := gif_f c80 h
        refine lv_iconst (v := (1 : Int32)) hx hb dX8_does_491 (by decide) ?_
        refine lv_goto (tgt := 496) hx hb dX8_does_492 (by decide) ?_
        obtain rfl := Option.some.inj h
        exact h_zret (v := b2i true) hx hb hr hlocks (by omega) (by omega) (b2i_nar true) ⟨_, rfl, ⟨hs, hf, hW.drop hM⟩, hoo⟩ hS dX8_does_496
def j_L_does_582 (x2 : Int32) (y1 : Int32) (y2 : Int32) (ν μ : gM) : Option ((Bool) × gM × gM) :=
  gchk (gIn y1 (lLn ν)) (gchk (y2 = 0 ∨ y2 = 1) (Option.bind (some (si ν 5 y1.toNatClampNeg y2)) (fun ν85 => gchk (gIn x2 (lLn ν85)) (Option.bind (f_X7_setActive x2 (gi ν85 5 x2.toNatClampNeg) μ) (fun q87 => Option.bind (f_X7_loopCount  q87.2) (fun q88 => if (q87.1 = q88.1) then some (true, ν85, q88.2) else some (false, ν85, q88.2)))))))
set_option maxHeartbeats 4000000 in
set_option maxRecDepth 100000 in
theorem wj_L_does_582 {p : Program} {l : Launch} {e : Env} {s : State} {m : MethodId} {args : Array Value} {below : List Frame} {meth : Method} {c : Code} {D : va_G} {cy : Nat → ClassId} {ad : Nat → Nat} {b : Nat} {la : Nat → Nat → Nat} {ν : gM} {o0 : Nat} {x2 : Int32} {y1 : Int32} {y2 : Int32} {μ : gM}  {o : (Bool) × gM × gM}  {cells slots : Nat} (h : j_L_does_582 x2 y1 y2 ν μ = some o) (F : gF p s m meth c cX8_does RX8 9 (some .boolean)) (E : hE l D cy ad b s) (hoo : la 0 0 = o0) (hc : cells + 0 ≤ 6807) (hs : slots + 0 ≤ 27244) {H : Heap} {locs : List Loc} {ls : Array Slot} (hM : hV D cy ad la b μ ν [] H) (hS : va_S (hA b) s.heap H locs) (hl : lv_has ls 9 [(0, .ref (la 0 0)), (2, .int x2)]) : W p l e ({ frames := 7, cells := 6807, slots := 27244, locals := 161 } : Room) s m args below meth c H locs cells slots (MQ below (hQ b (fun rv H => ∃ la1 : Nat → Nat → Nat, rv = some (.int (b2i o.1)) ∧ hV D cy ad la1 b o.2.2 o.2.1 [] H ∧ la1 0 0 = o0)) args s 6807 27244 (hA b)) (F0 m 582 ls [.int y2, .int y1, .ref (la 5 0)]) := by
  obtain ⟨hx, hb, hml, hown, hlocks, hr⟩ := id F
  obtain ⟨hs, hf, hM⟩ := hM
  have hY := lY_self (cy := cy) (ad := ad) (la := la) hs hf
  unfold j_L_does_582 at h
  obtain ⟨c83, h⟩ := gchk_e h
  obtain ⟨c84, h⟩ := gchk_e h
  refine lw_zast hx hb E hs hM hS c84 c83 dX8_does_582 (fun H locs hM hS => ?_)
  obtain ⟨ν85, hν85, h⟩ := gupd h
  rw [← hν85] at hM
  replace hf : lF ν85 := by rw [hν85]; exact (si_F (by unfold okid; omega) hs hf)
  replace hs : lS ν85 := by rw [hν85]; exact (si_S (by unfold okid; omega) hs)
  have hY := lY_self (cy := cy) (ad := ad) (la := la) hs hf
  refine lv_aload_n hx hb dX8_does_583 rfl (lv_at hl 0 rfl) ?_
  refine h_get hx hb hown E hM (hp_m (hY.c1 0 rfl)) gC_X8 0 (by decide) (v := .ref (ad 0)) rfl kw_1023 dX8_does_584 ?_
  refine lv_iload_n hx hb dX8_does_587 rfl (lv_at hl 1 rfl) ?_
  refine lv_aload_n hx hb dX8_does_588 rfl (lv_at hl 0 rfl) ?_
  refine h_get hx hb hown E hM (hp_m (hY.c1 0 rfl)) gC_X8 7 (by decide) (v := .ref (la 5 0)) rfl kw_1031 dX8_does_589 ?_
  refine lv_iload_n hx hb dX8_does_592 rfl (lv_at hl 1 rfl) ?_
  obtain ⟨c86, h⟩ := gchk_e h
  refine l_zald hx hb E hM (hp_m (hY.c1 5 rfl)) c86 (v := (gi ν85 5 x2.toNatClampNeg)) rfl dX8_does_593 ?_
  obtain ⟨q87, hq87, h⟩ := gbind_e h
  refine h_callC (As := [.int x2, .int (gi ν85 5 x2.toNatClampNeg)]) (rest := []) hx hb (hml.trans hl.1.symm) hown E hM hS hy_X7_setActive kw_1531 (c_X7_setActive hq87) hk_0 dd_0 rfl rfl rfl (Nat.le_of_ble_eq_true rfl) ⟨(Nat.le_of_ble_eq_true rfl), (Nat.le_of_ble_eq_true rfl)⟩ ⟨(show _ ≤ 6807 by omega), (show _ ≤ 27244 by omega)⟩ dX8_does_594 (fun H locs hM hS => ?_)
  refine lv_aload_n hx hb dX8_does_597 rfl (lv_at hl 0 rfl) ?_
  refine h_get hx hb hown E hM (hp_m (hY.c1 0 rfl)) gC_X8 0 (by decide) (v := .ref (ad 0)) rfl kw_1023 dX8_does_598 ?_
  obtain ⟨q88, hq88, h⟩ := gbind_e h
  refine h_callC (As := []) (rest := [.int q87.1]) hx hb (hml.trans hl.1.symm) hown E hM hS hy_X7_loopCount kw_1337 (c_X7_loopCount hq88) hk_0 dd_0 rfl rfl rfl (Nat.le_of_ble_eq_true rfl) ⟨(Nat.le_of_ble_eq_true rfl), (Nat.le_of_ble_eq_true rfl)⟩ ⟨(show _ ≤ 6807 by omega), (show _ ≤ 27244 by omega)⟩ dX8_does_601 (fun H locs hM hS => ?_)
  refine lv_icmp_ne (tgt := 611) hx hb dX8_does_604 (by decide) (fun c89 => ?_) (fun c89 => ?_)
  · replace h := gif_f c89 h
    refine lv_iconst (v := (0 : Int32)) hx hb dX8_does_611 (by decide) ?_
    obtain rfl := Option.some.inj h
    exact h_zret (v := b2i false) hx hb hr hlocks (by omega) (by omega) (b2i_nar false) ⟨_, rfl, ⟨hs, hf, hW.drop hM⟩, hoo⟩ hS dX8_does_612
  · replace h := gif_t c89 h
    refine lv_iconst (v := (1 : Int32)) hx hb dX8_does_607 (by decide) ?_
    refine lv_goto (tgt := 612) hx hb dX8_does_608 (by decide) ?_
    obtain rfl := Option.some.inj h
    exact h_zret (v := b2i true) hx hb hr hlocks (by omega) (by omega) (b2i_nar true) ⟨_, rfl, ⟨hs, hf, hW.drop hM⟩, hoo⟩ hS dX8_does_612
def j_L_does_43 (x1 : Int32) (x2 : Int32) (x3 : Int32) (x4 : Int32) (ν μ : gM) : Option ((Bool) × gM × gM) :=
  if x4 = 0 then Option.bind (f_L_mod (x1 >>> ((11 : Int32) &&& 31)) (300000 : Int32) μ) (fun q12 => gchk (gIn x3 16) (Option.bind (some (si ν 2 x3.toNatClampNeg q12)) (fun ν14 => Option.bind (gloop (fun t => b_L_does_110 x3 t.1 t.2 ν14 μ) 9 ((0 : Int32), (0 : Int32))) (fun q18 => gchk (gIn x3 16) (Option.bind (f_X7_hold x3 (gi ν14 2 x3.toNatClampNeg) μ) (fun q20 => if (q20.1 = q18) then some (true, ν14, q20.2) else some (false, ν14, q20.2))))))) else if x4 = 1 then gchk (gIn x3 16) (if (0 ≤ (gi ν 2 x3.toNatClampNeg)) then gchk (gIn x3 16) (Option.bind (some (si ν 2 x3.toNatClampNeg (-1 : Int32))) (fun ν26 => Option.bind (f_X7_release x3 μ) (fun q27 => if (q27.1 < 0) then some (false, ν26, q27.2) else some (true, ν26, q27.2)))) else Option.bind (f_X7_release x3 μ) (fun q29 => if (q29.1 = (-1 : Int32)) then Option.bind (f_L_restores  ν q29.2) (fun q31 => if ((b2i q31.1) = 0) then some (false, q31.2, q29.2) else some (true, q31.2, q29.2)) else some (false, ν, q29.2))) else if x4 = 2 then gchk (gIn x2 (lLn ν)) (Option.bind (f_L_mod (x1 >>> ((12 : Int32) &&& 31)) (nI (lSz ν x2.toNatClampNeg)) μ) (fun q35 => Option.bind (f_L_mod (x1 >>> ((14 : Int32) &&& 31)) (4 : Int32) μ) (fun q36 => if ((2 : Int32) ≤ q36) then Option.bind (f_L_mod (x1 >>> ((16 : Int32) &&& 31)) (100 : Int32) μ) (fun q38 => j_L_does_291 x2 q35 q36 ((1 : Int32) + q38) ν μ) else Option.bind (f_L_mod (x1 >>> ((16 : Int32) &&& 31)) (5000 : Int32) μ) (fun q48 => j_L_does_291 x2 q35 q36 q48 ν μ)))) else if x4 = 3 then Option.bind (f_L_mod (x1 >>> ((5 : Int32) &&& 31)) (4000 : Int32) μ) (fun q50 => Option.bind (f_L_mod (x1 >>> ((9 : Int32) &&& 31)) (4000 : Int32) μ) (fun q52 => Option.bind (f_L_mod (x1 >>> ((12 : Int32) &&& 31)) (100 : Int32) μ) (fun q54 => Option.bind (f_L_mod (x1 >>> ((16 : Int32) &&& 31)) (100 : Int32) μ) (fun q56 => gchk (gIn x2 (lLn ν)) (if ((nI (lSz ν x2.toNatClampNeg)) = (8 : Int32)) then j_L_does_448 x2 (1 : Int32) (upd (upd (upd (upd (fun _ => 0) 0 q50) 1 q52) 2 ((1 : Int32) + q54)) 3 ((1 : Int32) + q56)) ν μ else j_L_does_448 x2 (0 : Int32) (upd (upd (upd (upd (fun _ => 0) 0 q50) 1 q52) 2 ((1 : Int32) + q54)) 3 ((1 : Int32) + q56)) ν μ))))) else if x4 = 4 then Option.bind (f_L_mod (x1 >>> ((12 : Int32) &&& 31)) (3 : Int32) μ) (fun q81 => if (q81 ≤ 0) then j_L_does_582 x2 x2 (0 : Int32) ν μ else j_L_does_582 x2 x2 (1 : Int32) ν μ) else if x4 = 5 then Option.bind (f_L_mod (x1 >>> ((12 : Int32) &&& 31)) (3 : Int32) μ) (fun q90 => if (q90 ≤ 0) then j_L_does_582 x2 x2 (0 : Int32) ν μ else j_L_does_582 x2 x2 (1 : Int32) ν μ) else if x4 = 6 then Option.bind (f_L_mod (x1 >>> ((12 : Int32) &&& 31)) (2 : Int32) μ) (fun q92 => gchk (gIn q92 2) (Option.bind (f_L_mod (x1 >>> ((14 : Int32) &&& 31)) (401 : Int32) μ) (fun q94 => gchk (gIn q92 2) (Option.bind (some (si ν 1 q92.toNatClampNeg (q94 - (200 : Int32)))) (fun ν96 => gchk (gIn q92 2) (Option.bind (f_X7_setCollimation q92 (gi ν96 1 q92.toNatClampNeg) μ) (fun q98 => if (q98.1 = (gi ν 1 q92.toNatClampNeg)) then some (true, ν96, q98.2) else some (false, ν96, q98.2)))))))) else Option.bind (f_L_mod (x1 >>> ((12 : Int32) &&& 31)) (30 : Int32) μ) (fun q100 => Option.bind (f_X7_adjust ((1 : Int32) + q100) μ) (fun q101 => Option.bind (f_L_adjusts ((1 : Int32) + q100) ν q101.2) (fun q102 => if (q101.1 = q102.1) then some (true, q102.2, q101.2) else some (false, q102.2, q101.2))))
set_option maxHeartbeats 4000000 in
set_option maxRecDepth 100000 in
theorem wj_L_does_43 {p : Program} {l : Launch} {e : Env} {s : State} {m : MethodId} {args : Array Value} {below : List Frame} {meth : Method} {c : Code} {D : va_G} {cy : Nat → ClassId} {ad : Nat → Nat} {b : Nat} {la : Nat → Nat → Nat} {ν : gM} {o0 : Nat} {x1 : Int32} {x2 : Int32} {x3 : Int32} {x4 : Int32} {μ : gM}  {o : (Bool) × gM × gM}  {cells slots : Nat} (h : j_L_does_43 x1 x2 x3 x4 ν μ = some o) (F : gF p s m meth c cX8_does RX8 9 (some .boolean)) (E : hE l D cy ad b s) (hoo : la 0 0 = o0) (hc : cells + 6807 ≤ 6807) (hs : slots + 27244 ≤ 27244) {H : Heap} {locs : List Loc} {ls : Array Slot} (hM : hV D cy ad la b μ ν [] H) (hS : va_S (hA b) s.heap H locs) (hl : lv_has ls 9 [(0, .ref (la 0 0)), (1, .int x1), (2, .int x2), (3, .int x3), (4, .int x4)]) : W p l e ({ frames := 7, cells := 6807, slots := 27244, locals := 161 } : Room) s m args below meth c H locs cells slots (MQ below (hQ b (fun rv H => ∃ la1 : Nat → Nat → Nat, rv = some (.int (b2i o.1)) ∧ hV D cy ad la1 b o.2.2 o.2.1 [] H ∧ la1 0 0 = o0)) args s 6807 27244 (hA b)) (F0 m 43 ls []) := by
  obtain ⟨hx, hb, hml, hown, hlocks, hr⟩ := id F
  obtain ⟨hs, hf, hM⟩ := hM
  have hY := lY_self (cy := cy) (ad := ad) (la := la) hs hf
  unfold j_L_does_43 at h
  refine lv_iload hx hb dX8_does_43 (lv_at hl 4 rfl) ?_
  by_cases c5 : x4 = 0
  · replace h := gif_t c5 h
    refine lv_tableIn (off := 43) (tgt := 88) hx hb dX8_does_45 (by rw [c5]; decide) (by rw [c5]; decide) (by rw [c5]; rfl) (by decide) ?_
    refine lv_aload_n hx hb dX8_does_88 rfl (lv_at hl 0 rfl) ?_
    refine h_get hx hb hown E hM (hp_m (hY.c1 0 rfl)) gC_X8 4 (by decide) (v := .ref (la 2 0)) rfl kw_1028 dX8_does_89 ?_
    refine lv_iload_n hx hb dX8_does_92 rfl (lv_at hl 3 rfl) ?_
    refine lv_iload_n hx hb dX8_does_93 rfl (lv_at hl 1 rfl) ?_
    refine lv_bipush (v := (11 : Int32)) hx hb dX8_does_94 (by decide) ?_
    refine lv_ishr hx hb dX8_does_96 ?_
    refine lv_ldcw hx hb hown (v := (300000 : Int32)) (E.kw kw_1499) dX8_does_97 ?_
    obtain ⟨q12, hq12, h⟩ := gbind_e h
    refine h_callSCN (As := [.int (x1 >>> ((11 : Int32) &&& 31)), .int (300000 : Int32)]) (rest := [.int x3, .ref (la 2 0)]) hx hb (hml.trans hl.1.symm) hown E hM hS hy_L_mod (E.2.1.2.2.1 _ (List.mem_of_getElem? (i := 1) rfl)) (c_L_mod hq12) rfl rfl (Nat.le_of_ble_eq_true rfl) ⟨(Nat.le_of_ble_eq_true rfl), (Nat.le_of_ble_eq_true rfl)⟩ ⟨(show _ ≤ 6807 by omega), (show _ ≤ 27244 by omega)⟩ dX8_does_100 (fun H locs hM hS => ?_)
    obtain ⟨c13, h⟩ := gchk_e h
    refine lw_held hx hb E hs hM hS c13 dX8_does_103 (fun H locs hM hS => ?_)
    obtain ⟨ν14, hν14, h⟩ := gupd h
    rw [← hν14] at hM
    replace hf : lF ν14 := by rw [hν14]; exact (si_F (by unfold okid; omega) hs hf)
    replace hs : lS ν14 := by rw [hν14]; exact (si_S (by unfold okid; omega) hs)
    have hY := lY_self (cy := cy) (ad := ad) (la := la) hs hf
    refine lv_iconst (v := (0 : Int32)) hx hb dX8_does_104 (by decide) ?_
    refine lv_istore (lv' := [(5, .int (0 : Int32)), (0, .ref (la 0 0)), (1, .int x1), (2, .int x2), (3, .int x3), (4, .int x4)]) hx hb dX8_does_105 hl (by decide) rfl (fun ls hl => ?_)
    refine lv_iconst (v := (0 : Int32)) hx hb dX8_does_107 (by decide) ?_
    refine lv_istore (lv' := [(6, .int (0 : Int32)), (5, .int (0 : Int32)), (0, .ref (la 0 0)), (1, .int x1), (2, .int x2), (3, .int x3), (4, .int x4)]) hx hb dX8_does_108 hl (by decide) rfl (fun ls hl => ?_)
    obtain ⟨z22, h1, h⟩ := gbind_e h
    refine wl_L_does_110 (CM := cells + 0) (SM := slots + 0) F E hoo (by omega) (by omega) (r := z22) (fun q18 H locs ls e1 hM hS hl => ?_) 9 (0 : Int32) (0 : Int32) (by omega) (by omega) h1 ⟨hs, hf, hM⟩ hS (lv_sub hl [2, 5, 1, 0] rfl)
    replace e1 : z22 = q18 := e1
    rw [e1] at h
    obtain ⟨hs, hf, hM⟩ := hM
    have hY := lY_self (cy := cy) (ad := ad) (la := la) hs hf
    refine lv_aload_n hx hb dX8_does_145 rfl (lv_at hl 0 rfl) ?_
    refine h_get hx hb hown E hM (hp_m (hY.c1 0 rfl)) gC_X8 0 (by decide) (v := .ref (ad 0)) rfl kw_1023 dX8_does_146 ?_
    refine lv_iload_n hx hb dX8_does_149 rfl (lv_at hl 1 rfl) ?_
    refine lv_aload_n hx hb dX8_does_150 rfl (lv_at hl 0 rfl) ?_
    refine h_get hx hb hown E hM (hp_m (hY.c1 0 rfl)) gC_X8 4 (by decide) (v := .ref (la 2 0)) rfl kw_1028 dX8_does_151 ?_
    refine lv_iload_n hx hb dX8_does_154 rfl (lv_at hl 1 rfl) ?_
    obtain ⟨c19, h⟩ := gchk_e h
    refine l_iald hx hb E hM (hp_m (hY.c1 2 rfl)) c19 (v := (gi ν14 2 x3.toNatClampNeg)) rfl dX8_does_155 ?_
    obtain ⟨q20, hq20, h⟩ := gbind_e h
    refine h_callC (As := [.int x3, .int (gi ν14 2 x3.toNatClampNeg)]) (rest := []) hx hb (hml.trans hl.1.symm) hown E hM hS hy_X7_hold kw_1500 (c_X7_hold hq20) hk_0 dd_0 rfl rfl rfl (Nat.le_of_ble_eq_true rfl) ⟨(Nat.le_of_ble_eq_true rfl), (Nat.le_of_ble_eq_true rfl)⟩ ⟨(show _ ≤ 6807 by omega), (show _ ≤ 27244 by omega)⟩ dX8_does_156 (fun H locs hM hS => ?_)
    refine lv_iload hx hb dX8_does_159 (lv_at hl 2 rfl) ?_
    refine lv_icmp_ne (tgt := 168) hx hb dX8_does_161 (by decide) (fun c21 => ?_) (fun c21 => ?_)
    · replace h := gif_f c21 h
      refine lv_iconst (v := (0 : Int32)) hx hb dX8_does_168 (by decide) ?_
      obtain rfl := Option.some.inj h
      exact h_zret (v := b2i false) hx hb hr hlocks (by omega) (by omega) (b2i_nar false) ⟨_, rfl, ⟨hs, hf, hW.drop hM⟩, hoo⟩ hS dX8_does_169
    · replace h := gif_t c21 h
      refine lv_iconst (v := (1 : Int32)) hx hb dX8_does_164 (by decide) ?_
      refine lv_goto (tgt := 169) hx hb dX8_does_165 (by decide) ?_
      obtain rfl := Option.some.inj h
      exact h_zret (v := b2i true) hx hb hr hlocks (by omega) (by omega) (b2i_nar true) ⟨_, rfl, ⟨hs, hf, hW.drop hM⟩, hoo⟩ hS dX8_does_169
  · replace h := gif_f c5 h
    by_cases c6 : x4 = 1
    · replace h := gif_t c6 h
      refine lv_tableIn (off := 125) (tgt := 170) hx hb dX8_does_45 (by rw [c6]; decide) (by rw [c6]; decide) (by rw [c6]; rfl) (by decide) ?_
      refine lv_aload_n hx hb dX8_does_170 rfl (lv_at hl 0 rfl) ?_
      refine h_get hx hb hown E hM (hp_m (hY.c1 0 rfl)) gC_X8 4 (by decide) (v := .ref (la 2 0)) rfl kw_1028 dX8_does_171 ?_
      refine lv_iload_n hx hb dX8_does_174 rfl (lv_at hl 3 rfl) ?_
      obtain ⟨c23, h⟩ := gchk_e h
      refine l_iald hx hb E hM (hp_m (hY.c1 2 rfl)) c23 (v := (gi ν 2 x3.toNatClampNeg)) rfl dX8_does_175 ?_
      refine lv_if_ge (tgt := 204) hx hb dX8_does_176 (by decide) (fun c24 => ?_) (fun c24 => ?_)
      · replace h := gif_t c24 h
        refine lv_aload_n hx hb dX8_does_204 rfl (lv_at hl 0 rfl) ?_
        refine h_get hx hb hown E hM (hp_m (hY.c1 0 rfl)) gC_X8 4 (by decide) (v := .ref (la 2 0)) rfl kw_1028 dX8_does_205 ?_
        refine lv_iload_n hx hb dX8_does_208 rfl (lv_at hl 3 rfl) ?_
        refine lv_iconst (v := (-1 : Int32)) hx hb dX8_does_209 (by decide) ?_
        obtain ⟨c25, h⟩ := gchk_e h
        refine lw_held hx hb E hs hM hS c25 dX8_does_210 (fun H locs hM hS => ?_)
        obtain ⟨ν26, hν26, h⟩ := gupd h
        rw [← hν26] at hM
        replace hf : lF ν26 := by rw [hν26]; exact (si_F (by unfold okid; omega) hs hf)
        replace hs : lS ν26 := by rw [hν26]; exact (si_S (by unfold okid; omega) hs)
        have hY := lY_self (cy := cy) (ad := ad) (la := la) hs hf
        refine lv_aload_n hx hb dX8_does_211 rfl (lv_at hl 0 rfl) ?_
        refine h_get hx hb hown E hM (hp_m (hY.c1 0 rfl)) gC_X8 0 (by decide) (v := .ref (ad 0)) rfl kw_1023 dX8_does_212 ?_
        refine lv_iload_n hx hb dX8_does_215 rfl (lv_at hl 3 rfl) ?_
        obtain ⟨q27, hq27, h⟩ := gbind_e h
        refine h_callC (As := [.int x3]) (rest := []) hx hb (hml.trans hl.1.symm) hown E hM hS hy_X7_release kw_1509 (c_X7_release hq27) hk_0 dd_0 rfl rfl rfl (Nat.le_of_ble_eq_true rfl) ⟨(Nat.le_of_ble_eq_true rfl), (Nat.le_of_ble_eq_true rfl)⟩ ⟨(show _ ≤ 6807 by omega), (show _ ≤ 27244 by omega)⟩ dX8_does_216 (fun H locs hM hS => ?_)
        refine lv_if_lt (tgt := 226) hx hb dX8_does_219 (by decide) (fun c28 => ?_) (fun c28 => ?_)
        · replace h := gif_t c28 h
          refine lv_iconst (v := (0 : Int32)) hx hb dX8_does_226 (by decide) ?_
          obtain rfl := Option.some.inj h
          exact h_zret (v := b2i false) hx hb hr hlocks (by omega) (by omega) (b2i_nar false) ⟨_, rfl, ⟨hs, hf, hW.drop hM⟩, hoo⟩ hS dX8_does_227
        · replace h := gif_f c28 h
          refine lv_iconst (v := (1 : Int32)) hx hb dX8_does_222 (by decide) ?_
          refine lv_goto (tgt := 227) hx hb dX8_does_223 (by decide) ?_
          obtain rfl := Option.some.inj h
          exact h_zret (v := b2i true) hx hb hr hlocks (by omega) (by omega) (b2i_nar true) ⟨_, rfl, ⟨hs, hf, hW.drop hM⟩, hoo⟩ hS dX8_does_227
      · replace h := gif_f c24 h
        refine lv_aload_n hx hb dX8_does_179 rfl (lv_at hl 0 rfl) ?_
        refine h_get hx hb hown E hM (hp_m (hY.c1 0 rfl)) gC_X8 0 (by decide) (v := .ref (ad 0)) rfl kw_1023 dX8_does_180 ?_
        refine lv_iload_n hx hb dX8_does_183 rfl (lv_at hl 3 rfl) ?_
        obtain ⟨q29, hq29, h⟩ := gbind_e h
        refine h_callC (As := [.int x3]) (rest := []) hx hb (hml.trans hl.1.symm) hown E hM hS hy_X7_release kw_1509 (c_X7_release hq29) hk_0 dd_0 rfl rfl rfl (Nat.le_of_ble_eq_true rfl) ⟨(Nat.le_of_ble_eq_true rfl), (Nat.le_of_ble_eq_true rfl)⟩ ⟨(show _ ≤ 6807 by omega), (show _ ≤ 27244 by omega)⟩ dX8_does_184 (fun H locs hM hS => ?_)
        refine lv_iconst (v := (-1 : Int32)) hx hb dX8_does_187 (by decide) ?_
        refine lv_icmp_ne (tgt := 202) hx hb dX8_does_188 (by decide) (fun c30 => ?_) (fun c30 => ?_)
        · replace h := gif_f c30 h
          refine lv_iconst (v := (0 : Int32)) hx hb dX8_does_202 (by decide) ?_
          obtain rfl := Option.some.inj h
          exact h_zret (v := b2i false) hx hb hr hlocks (by omega) (by omega) (b2i_nar false) ⟨_, rfl, ⟨hs, hf, hW.drop hM⟩, hoo⟩ hS dX8_does_203
        · replace h := gif_t c30 h
          refine lv_aload_n hx hb dX8_does_191 rfl (lv_at hl 0 rfl) ?_
          obtain ⟨q31, hq31, h⟩ := gbind_e h
          refine h_callV (As := []) (rest := []) hx hb (hml.trans hl.1.symm) hown E hM hS xy_X8_restores kw_1513 (c_L_restores hs hf hq31) (hp_m (hY.c1 0 rfl)) gC_X8.1 rfl rfl (Nat.le_of_ble_eq_true rfl) ⟨(Nat.le_of_ble_eq_true rfl), (Nat.le_of_ble_eq_true rfl)⟩ ⟨(show _ ≤ 6807 by omega), (show _ ≤ 27244 by omega)⟩ dX8_does_192 (fun rv H locs hZ hS => ?_)
          obtain ⟨la32, rfl, ⟨hs, hf, hM⟩, ho1⟩ := hZ
          replace hoo := ho1.trans hoo
          rw [← ho1] at hl
          have hY := lY_self (cy := cy) (ad := ad) (la := la32) hs hf
          refine lv_if_eq (tgt := 202) hx hb dX8_does_195 (by decide) (fun c33 => ?_) (fun c33 => ?_)
          · replace h := gif_t c33 h
            refine lv_iconst (v := (0 : Int32)) hx hb dX8_does_202 (by decide) ?_
            obtain rfl := Option.some.inj h
            exact h_zret (v := b2i false) hx hb hr hlocks (by omega) (by omega) (b2i_nar false) ⟨_, rfl, ⟨hs, hf, hW.drop hM⟩, hoo⟩ hS dX8_does_203
          · replace h := gif_f c33 h
            refine lv_iconst (v := (1 : Int32)) hx hb dX8_does_198 (by decide) ?_
            refine lv_goto (tgt := 203) hx hb dX8_does_199 (by decide) ?_
            obtain rfl := Option.some.inj h
            exact h_zret (v := b2i true) hx hb hr hlocks (by omega) (by omega) (b2i_nar true) ⟨_, rfl, ⟨hs, hf, hW.drop hM⟩, hoo⟩ hS dX8_does_203
    · replace h := gif_f c6 h
      by_cases c7 : x4 = 2
      · replace h := gif_t c7 h
        refine lv_tableIn (off := 183) (tgt := 228) hx hb dX8_does_45 (by rw [c7]; decide) (by rw [c7]; decide) (by rw [c7]; rfl) (by decide) ?_
        refine lv_iload_n hx hb dX8_does_228 rfl (lv_at hl 1 rfl) ?_
        refine lv_bipush (v := (12 : Int32)) hx hb dX8_does_229 (by decide) ?_
        refine lv_ishr hx hb dX8_does_231 ?_
        refine lv_aload_n hx hb dX8_does_232 rfl (lv_at hl 0 rfl) ?_
        refine h_get hx hb hown E hM (hp_m (hY.c1 0 rfl)) gC_X8 8 (by decide) (v := .ref (la 6 0)) rfl kw_1032 dX8_does_233 ?_
        refine lv_iload_n hx hb dX8_does_236 rfl (lv_at hl 2 rfl) ?_
        obtain ⟨c34, h⟩ := gchk_e h
        refine h_callV (As := [.int x2]) (rest := [.int (x1 >>> ((12 : Int32) &&& 31))]) hx hb (hml.trans hl.1.symm) hown E hM hS xy_Jx4a65c_get_915e3 kw_870 (cl_get hY c34) (hp_m (hY.c1 6 rfl)) gC_Jx4a65c.1 rfl rfl (Nat.le_of_ble_eq_true rfl) ⟨(Nat.le_of_ble_eq_true rfl), (Nat.le_of_ble_eq_true rfl)⟩ ⟨(show _ ≤ 6807 by omega), (show _ ≤ 27244 by omega)⟩ dX8_does_237 (fun rv H locs hZ hS => ?_)
        obtain ⟨rfl, hM⟩ := hZ
        refine h_castY hx hb hown E hM (hp_m (hY.c2 c34.2 1 rfl)) gC_Jx4a65c kw_511 dX8_does_240 ?_
        refine h_callV (As := []) (rest := [.int (x1 >>> ((12 : Int32) &&& 31))]) hx hb (hml.trans hl.1.symm) hown E hM hS xy_Jx4a65c_size_8abf5 kw_1212 (cl_size hY c34.2) (hp_m (hY.c2 c34.2 1 rfl)) gC_Jx4a65c.1 rfl rfl (Nat.le_of_ble_eq_true rfl) ⟨(Nat.le_of_ble_eq_true rfl), (Nat.le_of_ble_eq_true rfl)⟩ ⟨(show _ ≤ 6807 by omega), (show _ ≤ 27244 by omega)⟩ dX8_does_243 (fun rv H locs hZ hS => ?_)
        obtain ⟨rfl, hM⟩ := hZ
        obtain ⟨q35, hq35, h⟩ := gbind_e h
        refine h_callSCN (As := [.int (x1 >>> ((12 : Int32) &&& 31)), .int (nI (lSz ν x2.toNatClampNeg))]) (rest := []) hx hb (hml.trans hl.1.symm) hown E hM hS hy_L_mod (E.2.1.2.2.1 _ (List.mem_of_getElem? (i := 1) rfl)) (c_L_mod hq35) rfl rfl (Nat.le_of_ble_eq_true rfl) ⟨(Nat.le_of_ble_eq_true rfl), (Nat.le_of_ble_eq_true rfl)⟩ ⟨(show _ ≤ 6807 by omega), (show _ ≤ 27244 by omega)⟩ dX8_does_246 (fun H locs hM hS => ?_)
        refine lv_istore (lv' := [(5, .int q35), (0, .ref (la 0 0)), (1, .int x1), (2, .int x2), (3, .int x3), (4, .int x4)]) hx hb dX8_does_249 hl (by decide) rfl (fun ls hl => ?_)
        refine lv_iload_n hx hb dX8_does_251 rfl (lv_at hl 2 rfl) ?_
        refine lv_bipush (v := (14 : Int32)) hx hb dX8_does_252 (by decide) ?_
        refine lv_ishr hx hb dX8_does_254 ?_
        refine lv_iconst (v := (4 : Int32)) hx hb dX8_does_255 (by decide) ?_
        obtain ⟨q36, hq36, h⟩ := gbind_e h
        refine h_callSCN (As := [.int (x1 >>> ((14 : Int32) &&& 31)), .int (4 : Int32)]) (rest := []) hx hb (hml.trans hl.1.symm) hown E hM hS hy_L_mod (E.2.1.2.2.1 _ (List.mem_of_getElem? (i := 1) rfl)) (c_L_mod hq36) rfl rfl (Nat.le_of_ble_eq_true rfl) ⟨(Nat.le_of_ble_eq_true rfl), (Nat.le_of_ble_eq_true rfl)⟩ ⟨(show _ ≤ 6807 by omega), (show _ ≤ 27244 by omega)⟩ dX8_does_256 (fun H locs hM hS => ?_)
        refine lv_istore (lv' := [(6, .int q36), (5, .int q35), (0, .ref (la 0 0)), (1, .int x1), (2, .int x2), (3, .int x3), (4, .int x4)]) hx hb dX8_does_259 hl (by decide) rfl (fun ls hl => ?_)
        refine lv_iload hx hb dX8_does_261 (lv_at hl 0 rfl) ?_
        refine lv_iconst (v := (2 : Int32)) hx hb dX8_does_263 (by decide) ?_
        refine lv_icmp_ge (tgt := 280) hx hb dX8_does_264 (by decide) (fun c37 => ?_) (fun c37 => ?_)
        · replace h := gif_t c37 h
          refine lv_iconst (v := (1 : Int32)) hx hb dX8_does_280 (by decide) ?_
          refine lv_iload_n hx hb dX8_does_281 rfl (lv_at hl 3 rfl) ?_
          refine lv_bipush (v := (16 : Int32)) hx hb dX8_does_282 (by decide) ?_
          refine lv_ishr hx hb dX8_does_284 ?_
          refine lv_bipush (v := (100 : Int32)) hx hb dX8_does_285 (by decide) ?_
          obtain ⟨q38, hq38, h⟩ := gbind_e h
          refine h_callSCN (As := [.int (x1 >>> ((16 : Int32) &&& 31)), .int (100 : Int32)]) (rest := [.int (1 : Int32)]) hx hb (hml.trans hl.1.symm) hown E hM hS hy_L_mod (E.2.1.2.2.1 _ (List.mem_of_getElem? (i := 1) rfl)) (c_L_mod hq38) rfl rfl (Nat.le_of_ble_eq_true rfl) ⟨(Nat.le_of_ble_eq_true rfl), (Nat.le_of_ble_eq_true rfl)⟩ ⟨(show _ ≤ 6807 by omega), (show _ ≤ 27244 by omega)⟩ dX8_does_287 (fun H locs hM hS => ?_)
          refine lv_iadd hx hb dX8_does_290 ?_
          exact wj_L_does_291 h F E hoo (by omega) (by omega) ⟨hs, hf, hM⟩ hS (lv_sub hl [2, 4, 1, 0] rfl)
        · replace h := gif_f c37 h
          refine lv_iload_n hx hb dX8_does_267 rfl (lv_at hl 3 rfl) ?_
          refine lv_bipush (v := (16 : Int32)) hx hb dX8_does_268 (by decide) ?_
          refine lv_ishr hx hb dX8_does_270 ?_
          refine lv_sipush (v := (5000 : Int32)) hx hb dX8_does_271 (by decide) ?_
          obtain ⟨q48, hq48, h⟩ := gbind_e h
          refine h_callSCN (As := [.int (x1 >>> ((16 : Int32) &&& 31)), .int (5000 : Int32)]) (rest := []) hx hb (hml.trans hl.1.symm) hown E hM hS hy_L_mod (E.2.1.2.2.1 _ (List.mem_of_getElem? (i := 1) rfl)) (c_L_mod hq48) rfl rfl (Nat.le_of_ble_eq_true rfl) ⟨(Nat.le_of_ble_eq_true rfl), (Nat.le_of_ble_eq_true rfl)⟩ ⟨(show _ ≤ 6807 by omega), (show _ ≤ 27244 by omega)⟩ dX8_does_274 (fun H locs hM hS => ?_)
          refine lv_goto (tgt := 291) hx hb dX8_does_277 (by decide) ?_
          exact wj_L_does_291 h F E hoo (by omega) (by omega) ⟨hs, hf, hM⟩ hS (lv_sub hl [2, 4, 1, 0] rfl)
      · replace h := gif_f c7 h
        by_cases c8 : x4 = 3
        · replace h := gif_t c8 h
          refine lv_tableIn (off := 321) (tgt := 366) hx hb dX8_does_45 (by rw [c8]; decide) (by rw [c8]; decide) (by rw [c8]; rfl) (by decide) ?_
          refine lv_iconst (v := (4 : Int32)) hx hb dX8_does_366 (by decide) ?_
          refine l_newI hx hb E hM hS (show _ ≤ 6807 by omega) (show _ ≤ 27244 by omega) dX8_does_367 (fun a49 H hM hS => ?_)
          refine lv_dup hx hb dX8_does_369 rfl ?_
          refine lv_iconst (v := (0 : Int32)) hx hb dX8_does_370 (by decide) ?_
          refine lv_iload_n hx hb dX8_does_371 rfl (lv_at hl 1 rfl) ?_
          refine lv_iconst (v := (5 : Int32)) hx hb dX8_does_372 (by decide) ?_
          refine lv_ishr hx hb dX8_does_373 ?_
          refine lv_sipush (v := (4000 : Int32)) hx hb dX8_does_374 (by decide) ?_
          obtain ⟨q50, hq50, h⟩ := gbind_e h
          refine h_callSCN (As := [.int (x1 >>> ((5 : Int32) &&& 31)), .int (4000 : Int32)]) (rest := [.int (0 : Int32), .ref a49, .ref a49]) hx hb (hml.trans hl.1.symm) hown E hM hS hy_L_mod (E.2.1.2.2.1 _ (List.mem_of_getElem? (i := 1) rfl)) (c_L_mod hq50) rfl rfl (Nat.le_of_ble_eq_true rfl) ⟨(Nat.le_of_ble_eq_true rfl), (Nat.le_of_ble_eq_true rfl)⟩ ⟨(show _ ≤ 6807 by omega), (show _ ≤ 27244 by omega)⟩ dX8_does_377 (fun H locs hM hS => ?_)
          refine h_iast (j := 0) hx hb E hM hS rfl (⟨by decide, by decide⟩ : gIn (0 : Int32) 4) dX8_does_380 (fun H locs hM hS => ?_)
          replace hM : hW D cy ad b μ (lws cy ad la ν) [(a49, .inl (cy 0, 4, .inl (upd (fun _ => 0) 0 q50)))] H := hM
          refine lv_dup hx hb dX8_does_381 rfl ?_
          refine lv_iconst (v := (1 : Int32)) hx hb dX8_does_382 (by decide) ?_
          refine lv_iload_n hx hb dX8_does_383 rfl (lv_at hl 1 rfl) ?_
          refine lv_bipush (v := (9 : Int32)) hx hb dX8_does_384 (by decide) ?_
          refine lv_ishr hx hb dX8_does_386 ?_
          refine lv_sipush (v := (4000 : Int32)) hx hb dX8_does_387 (by decide) ?_
          obtain ⟨q52, hq52, h⟩ := gbind_e h
          refine h_callSCN (As := [.int (x1 >>> ((9 : Int32) &&& 31)), .int (4000 : Int32)]) (rest := [.int (1 : Int32), .ref a49, .ref a49]) hx hb (hml.trans hl.1.symm) hown E hM hS hy_L_mod (E.2.1.2.2.1 _ (List.mem_of_getElem? (i := 1) rfl)) (c_L_mod hq52) rfl rfl (Nat.le_of_ble_eq_true rfl) ⟨(Nat.le_of_ble_eq_true rfl), (Nat.le_of_ble_eq_true rfl)⟩ ⟨(show _ ≤ 6807 by omega), (show _ ≤ 27244 by omega)⟩ dX8_does_390 (fun H locs hM hS => ?_)
          refine h_iast (j := 0) hx hb E hM hS rfl (⟨by decide, by decide⟩ : gIn (1 : Int32) 4) dX8_does_393 (fun H locs hM hS => ?_)
          replace hM : hW D cy ad b μ (lws cy ad la ν) [(a49, .inl (cy 0, 4, .inl (upd (upd (fun _ => 0) 0 q50) 1 q52)))] H := hM
          refine lv_dup hx hb dX8_does_394 rfl ?_
          refine lv_iconst (v := (2 : Int32)) hx hb dX8_does_395 (by decide) ?_
          refine lv_iconst (v := (1 : Int32)) hx hb dX8_does_396 (by decide) ?_
          refine lv_iload_n hx hb dX8_does_397 rfl (lv_at hl 1 rfl) ?_
          refine lv_bipush (v := (12 : Int32)) hx hb dX8_does_398 (by decide) ?_
          refine lv_ishr hx hb dX8_does_400 ?_
          refine lv_bipush (v := (100 : Int32)) hx hb dX8_does_401 (by decide) ?_
          obtain ⟨q54, hq54, h⟩ := gbind_e h
          refine h_callSCN (As := [.int (x1 >>> ((12 : Int32) &&& 31)), .int (100 : Int32)]) (rest := [.int (1 : Int32), .int (2 : Int32), .ref a49, .ref a49]) hx hb (hml.trans hl.1.symm) hown E hM hS hy_L_mod (E.2.1.2.2.1 _ (List.mem_of_getElem? (i := 1) rfl)) (c_L_mod hq54) rfl rfl (Nat.le_of_ble_eq_true rfl) ⟨(Nat.le_of_ble_eq_true rfl), (Nat.le_of_ble_eq_true rfl)⟩ ⟨(show _ ≤ 6807 by omega), (show _ ≤ 27244 by omega)⟩ dX8_does_403 (fun H locs hM hS => ?_)
          refine lv_iadd hx hb dX8_does_406 ?_
          refine h_iast (j := 0) hx hb E hM hS rfl (⟨by decide, by decide⟩ : gIn (2 : Int32) 4) dX8_does_407 (fun H locs hM hS => ?_)
          replace hM : hW D cy ad b μ (lws cy ad la ν) [(a49, .inl (cy 0, 4, .inl (upd (upd (upd (fun _ => 0) 0 q50) 1 q52) 2 ((1 : Int32) + q54))))] H := hM
          refine lv_dup hx hb dX8_does_408 rfl ?_
          refine lv_iconst (v := (3 : Int32)) hx hb dX8_does_409 (by decide) ?_
          refine lv_iconst (v := (1 : Int32)) hx hb dX8_does_410 (by decide) ?_
          refine lv_iload_n hx hb dX8_does_411 rfl (lv_at hl 1 rfl) ?_
          refine lv_bipush (v := (16 : Int32)) hx hb dX8_does_412 (by decide) ?_
          refine lv_ishr hx hb dX8_does_414 ?_
          refine lv_bipush (v := (100 : Int32)) hx hb dX8_does_415 (by decide) ?_
          obtain ⟨q56, hq56, h⟩ := gbind_e h
          refine h_callSCN (As := [.int (x1 >>> ((16 : Int32) &&& 31)), .int (100 : Int32)]) (rest := [.int (1 : Int32), .int (3 : Int32), .ref a49, .ref a49]) hx hb (hml.trans hl.1.symm) hown E hM hS hy_L_mod (E.2.1.2.2.1 _ (List.mem_of_getElem? (i := 1) rfl)) (c_L_mod hq56) rfl rfl (Nat.le_of_ble_eq_true rfl) ⟨(Nat.le_of_ble_eq_true rfl), (Nat.le_of_ble_eq_true rfl)⟩ ⟨(show _ ≤ 6807 by omega), (show _ ≤ 27244 by omega)⟩ dX8_does_417 (fun H locs hM hS => ?_)
          refine lv_iadd hx hb dX8_does_420 ?_
          refine h_iast (j := 0) hx hb E hM hS rfl (⟨by decide, by decide⟩ : gIn (3 : Int32) 4) dX8_does_421 (fun H locs hM hS => ?_)
          replace hM : hW D cy ad b μ (lws cy ad la ν) [(a49, .inl (cy 0, 4, .inl (upd (upd (upd (upd (fun _ => 0) 0 q50) 1 q52) 2 ((1 : Int32) + q54)) 3 ((1 : Int32) + q56))))] H := hM
          refine lv_astore (lv' := [(5, .ref a49), (0, .ref (la 0 0)), (1, .int x1), (2, .int x2), (3, .int x3), (4, .int x4)]) hx hb dX8_does_422 hl (by decide) rfl (fun ls hl => ?_)
          refine lv_aload_n hx hb dX8_does_424 rfl (lv_at hl 1 rfl) ?_
          refine h_get hx hb hown E hM (hp_m (hY.c1 0 rfl)) gC_X8 8 (by decide) (v := .ref (la 6 0)) rfl kw_1032 dX8_does_425 ?_
          refine lv_iload_n hx hb dX8_does_428 rfl (lv_at hl 3 rfl) ?_
          obtain ⟨c58, h⟩ := gchk_e h
          replace hM := hW.low (T := [(a49, .inl (cy 0, 4, .inl (upd (upd (upd (upd (fun _ => 0) 0 q50) 1 q52) 2 ((1 : Int32) + q54)) 3 ((1 : Int32) + q56))))]) hM
          refine h_callV (As := [.int x2]) (rest := []) hx hb (hml.trans hl.1.symm) hown E hM hS xy_Jx4a65c_get_915e3 kw_870 (cl_get (hY.app _) c58) (hp_m ((hY.app _).c1 6 rfl)) gC_Jx4a65c.1 rfl rfl (Nat.le_of_ble_eq_true rfl) ⟨(Nat.le_of_ble_eq_true rfl), (Nat.le_of_ble_eq_true rfl)⟩ ⟨(show _ ≤ 6807 by omega), (show _ ≤ 27244 by omega)⟩ dX8_does_429 (fun rv H locs hZ hS => ?_)
          obtain ⟨rfl, hM⟩ := hZ
          replace hM := hW.up (T := [(a49, .inl (cy 0, 4, .inl (upd (upd (upd (upd (fun _ => 0) 0 q50) 1 q52) 2 ((1 : Int32) + q54)) 3 ((1 : Int32) + q56))))]) hM
          refine h_castY hx hb hown E hM (hp_m (hY.c2 c58.2 1 rfl)) gC_Jx4a65c kw_511 dX8_does_432 ?_
          replace hM := hW.low (T := [(a49, .inl (cy 0, 4, .inl (upd (upd (upd (upd (fun _ => 0) 0 q50) 1 q52) 2 ((1 : Int32) + q54)) 3 ((1 : Int32) + q56))))]) hM
          refine h_callV (As := []) (rest := []) hx hb (hml.trans hl.1.symm) hown E hM hS xy_Jx4a65c_size_8abf5 kw_1212 (cl_size (hY.app _) c58.2) (hp_m ((hY.app _).c2 c58.2 1 rfl)) gC_Jx4a65c.1 rfl rfl (Nat.le_of_ble_eq_true rfl) ⟨(Nat.le_of_ble_eq_true rfl), (Nat.le_of_ble_eq_true rfl)⟩ ⟨(show _ ≤ 6807 by omega), (show _ ≤ 27244 by omega)⟩ dX8_does_435 (fun rv H locs hZ hS => ?_)
          obtain ⟨rfl, hM⟩ := hZ
          replace hM := hW.up (T := [(a49, .inl (cy 0, 4, .inl (upd (upd (upd (upd (fun _ => 0) 0 q50) 1 q52) 2 ((1 : Int32) + q54)) 3 ((1 : Int32) + q56))))]) hM
          refine lv_bipush (v := (8 : Int32)) hx hb dX8_does_438 (by decide) ?_
          refine lv_icmp_ne (tgt := 447) hx hb dX8_does_440 (by decide) (fun c59 => ?_) (fun c59 => ?_)
          · replace h := gif_f c59 h
            refine lv_iconst (v := (0 : Int32)) hx hb dX8_does_447 (by decide) ?_
            exact wj_L_does_448 h F E hoo (by omega) (by omega) ⟨hs, hf, hM⟩ hS (lv_sub hl [1, 3, 0] rfl)
          · replace h := gif_t c59 h
            refine lv_iconst (v := (1 : Int32)) hx hb dX8_does_443 (by decide) ?_
            refine lv_goto (tgt := 448) hx hb dX8_does_444 (by decide) ?_
            exact wj_L_does_448 h F E hoo (by omega) (by omega) ⟨hs, hf, hM⟩ hS (lv_sub hl [1, 3, 0] rfl)
        · replace h := gif_f c8 h
          by_cases c9 : x4 = 4
          · replace h := gif_t c9 h
            refine lv_tableIn (off := 516) (tgt := 561) hx hb dX8_does_45 (by rw [c9]; decide) (by rw [c9]; decide) (by rw [c9]; rfl) (by decide) ?_
            refine lv_aload_n hx hb dX8_does_561 rfl (lv_at hl 0 rfl) ?_
            refine h_get hx hb hown E hM (hp_m (hY.c1 0 rfl)) gC_X8 7 (by decide) (v := .ref (la 5 0)) rfl kw_1031 dX8_does_562 ?_
            refine lv_iload_n hx hb dX8_does_565 rfl (lv_at hl 2 rfl) ?_
            refine lv_iload_n hx hb dX8_does_566 rfl (lv_at hl 1 rfl) ?_
            refine lv_bipush (v := (12 : Int32)) hx hb dX8_does_567 (by decide) ?_
            refine lv_ishr hx hb dX8_does_569 ?_
            refine lv_iconst (v := (3 : Int32)) hx hb dX8_does_570 (by decide) ?_
            obtain ⟨q81, hq81, h⟩ := gbind_e h
            refine h_callSCN (As := [.int (x1 >>> ((12 : Int32) &&& 31)), .int (3 : Int32)]) (rest := [.int x2, .ref (la 5 0)]) hx hb (hml.trans hl.1.symm) hown E hM hS hy_L_mod (E.2.1.2.2.1 _ (List.mem_of_getElem? (i := 1) rfl)) (c_L_mod hq81) rfl rfl (Nat.le_of_ble_eq_true rfl) ⟨(Nat.le_of_ble_eq_true rfl), (Nat.le_of_ble_eq_true rfl)⟩ ⟨(show _ ≤ 6807 by omega), (show _ ≤ 27244 by omega)⟩ dX8_does_571 (fun H locs hM hS => ?_)
            refine lv_if_le (tgt := 581) hx hb dX8_does_574 (by decide) (fun c82 => ?_) (fun c82 => ?_)
            · replace h := gif_t c82 h
              refine lv_iconst (v := (0 : Int32)) hx hb dX8_does_581 (by decide) ?_
              exact wj_L_does_582 h F E hoo (by omega) (by omega) ⟨hs, hf, hM⟩ hS (lv_sub hl [0, 2] rfl)
            · replace h := gif_f c82 h
              refine lv_iconst (v := (1 : Int32)) hx hb dX8_does_577 (by decide) ?_
              refine lv_goto (tgt := 582) hx hb dX8_does_578 (by decide) ?_
              exact wj_L_does_582 h F E hoo (by omega) (by omega) ⟨hs, hf, hM⟩ hS (lv_sub hl [0, 2] rfl)
          · replace h := gif_f c9 h
            by_cases c10 : x4 = 5
            · replace h := gif_t c10 h
              refine lv_tableIn (off := 516) (tgt := 561) hx hb dX8_does_45 (by rw [c10]; decide) (by rw [c10]; decide) (by rw [c10]; rfl) (by decide) ?_
              refine lv_aload_n hx hb dX8_does_561 rfl (lv_at hl 0 rfl) ?_
              refine h_get hx hb hown E hM (hp_m (hY.c1 0 rfl)) gC_X8 7 (by decide) (v := .ref (la 5 0)) rfl kw_1031 dX8_does_562 ?_
              refine lv_iload_n hx hb dX8_does_565 rfl (lv_at hl 2 rfl) ?_
              refine lv_iload_n hx hb dX8_does_566 rfl (lv_at hl 1 rfl) ?_
              refine lv_bipush (v := (12 : Int32)) hx hb dX8_does_567 (by decide) ?_
              refine lv_ishr hx hb dX8_does_569 ?_
              refine lv_iconst (v := (3 : Int32)) hx hb dX8_does_570 (by decide) ?_
              obtain ⟨q90, hq90, h⟩ := gbind_e h
              refine h_callSCN (As := [.int (x1 >>> ((12 : Int32) &&& 31)), .int (3 : Int32)]) (rest := [.int x2, .ref (la 5 0)]) hx hb (hml.trans hl.1.symm) hown E hM hS hy_L_mod (E.2.1.2.2.1 _ (List.mem_of_getElem? (i := 1) rfl)) (c_L_mod hq90) rfl rfl (Nat.le_of_ble_eq_true rfl) ⟨(Nat.le_of_ble_eq_true rfl), (Nat.le_of_ble_eq_true rfl)⟩ ⟨(show _ ≤ 6807 by omega), (show _ ≤ 27244 by omega)⟩ dX8_does_571 (fun H locs hM hS => ?_)
              refine lv_if_le (tgt := 581) hx hb dX8_does_574 (by decide) (fun c91 => ?_) (fun c91 => ?_)
              · replace h := gif_t c91 h
                refine lv_iconst (v := (0 : Int32)) hx hb dX8_does_581 (by decide) ?_
                exact wj_L_does_582 h F E hoo (by omega) (by omega) ⟨hs, hf, hM⟩ hS (lv_sub hl [0, 2] rfl)
              · replace h := gif_f c91 h
                refine lv_iconst (v := (1 : Int32)) hx hb dX8_does_577 (by decide) ?_
                refine lv_goto (tgt := 582) hx hb dX8_does_578 (by decide) ?_
                exact wj_L_does_582 h F E hoo (by omega) (by omega) ⟨hs, hf, hM⟩ hS (lv_sub hl [0, 2] rfl)
            · replace h := gif_f c10 h
              by_cases c11 : x4 = 6
              · replace h := gif_t c11 h
                refine lv_tableIn (off := 568) (tgt := 613) hx hb dX8_does_45 (by rw [c11]; decide) (by rw [c11]; decide) (by rw [c11]; rfl) (by decide) ?_
                refine lv_iload_n hx hb dX8_does_613 rfl (lv_at hl 1 rfl) ?_
                refine lv_bipush (v := (12 : Int32)) hx hb dX8_does_614 (by decide) ?_
                refine lv_ishr hx hb dX8_does_616 ?_
                refine lv_iconst (v := (2 : Int32)) hx hb dX8_does_617 (by decide) ?_
                obtain ⟨q92, hq92, h⟩ := gbind_e h
                refine h_callSCN (As := [.int (x1 >>> ((12 : Int32) &&& 31)), .int (2 : Int32)]) (rest := []) hx hb (hml.trans hl.1.symm) hown E hM hS hy_L_mod (E.2.1.2.2.1 _ (List.mem_of_getElem? (i := 1) rfl)) (c_L_mod hq92) rfl rfl (Nat.le_of_ble_eq_true rfl) ⟨(Nat.le_of_ble_eq_true rfl), (Nat.le_of_ble_eq_true rfl)⟩ ⟨(show _ ≤ 6807 by omega), (show _ ≤ 27244 by omega)⟩ dX8_does_618 (fun H locs hM hS => ?_)
                refine lv_istore (lv' := [(5, .int q92), (0, .ref (la 0 0)), (1, .int x1), (2, .int x2), (3, .int x3), (4, .int x4)]) hx hb dX8_does_621 hl (by decide) rfl (fun ls hl => ?_)
                refine lv_aload_n hx hb dX8_does_623 rfl (lv_at hl 1 rfl) ?_
                refine h_get hx hb hown E hM (hp_m (hY.c1 0 rfl)) gC_X8 3 (by decide) (v := .ref (la 1 0)) rfl kw_1027 dX8_does_624 ?_
                refine lv_iload hx hb dX8_does_627 (lv_at hl 0 rfl) ?_
                obtain ⟨c93, h⟩ := gchk_e h
                refine l_iald hx hb E hM (hp_m (hY.c1 1 rfl)) c93 (v := (gi ν 1 q92.toNatClampNeg)) rfl dX8_does_629 ?_
                refine lv_istore (lv' := [(6, .int (gi ν 1 q92.toNatClampNeg)), (5, .int q92), (0, .ref (la 0 0)), (1, .int x1), (2, .int x2), (3, .int x3), (4, .int x4)]) hx hb dX8_does_630 hl (by decide) rfl (fun ls hl => ?_)
                refine lv_aload_n hx hb dX8_does_632 rfl (lv_at hl 2 rfl) ?_
                refine h_get hx hb hown E hM (hp_m (hY.c1 0 rfl)) gC_X8 3 (by decide) (v := .ref (la 1 0)) rfl kw_1027 dX8_does_633 ?_
                refine lv_iload hx hb dX8_does_636 (lv_at hl 1 rfl) ?_
                refine lv_iload_n hx hb dX8_does_638 rfl (lv_at hl 3 rfl) ?_
                refine lv_bipush (v := (14 : Int32)) hx hb dX8_does_639 (by decide) ?_
                refine lv_ishr hx hb dX8_does_641 ?_
                refine lv_sipush (v := (401 : Int32)) hx hb dX8_does_642 (by decide) ?_
                obtain ⟨q94, hq94, h⟩ := gbind_e h
                refine h_callSCN (As := [.int (x1 >>> ((14 : Int32) &&& 31)), .int (401 : Int32)]) (rest := [.int q92, .ref (la 1 0)]) hx hb (hml.trans hl.1.symm) hown E hM hS hy_L_mod (E.2.1.2.2.1 _ (List.mem_of_getElem? (i := 1) rfl)) (c_L_mod hq94) rfl rfl (Nat.le_of_ble_eq_true rfl) ⟨(Nat.le_of_ble_eq_true rfl), (Nat.le_of_ble_eq_true rfl)⟩ ⟨(show _ ≤ 6807 by omega), (show _ ≤ 27244 by omega)⟩ dX8_does_645 (fun H locs hM hS => ?_)
                refine lv_sipush (v := (200 : Int32)) hx hb dX8_does_648 (by decide) ?_
                refine lv_isub hx hb dX8_does_651 ?_
                obtain ⟨c95, h⟩ := gchk_e h
                refine lw_coll hx hb E hs hM hS c95 dX8_does_652 (fun H locs hM hS => ?_)
                obtain ⟨ν96, hν96, h⟩ := gupd h
                rw [← hν96] at hM
                replace hf : lF ν96 := by rw [hν96]; exact (si_F (by unfold okid; omega) hs hf)
                replace hs : lS ν96 := by rw [hν96]; exact (si_S (by unfold okid; omega) hs)
                have hY := lY_self (cy := cy) (ad := ad) (la := la) hs hf
                refine lv_aload_n hx hb dX8_does_653 rfl (lv_at hl 2 rfl) ?_
                refine h_get hx hb hown E hM (hp_m (hY.c1 0 rfl)) gC_X8 0 (by decide) (v := .ref (ad 0)) rfl kw_1023 dX8_does_654 ?_
                refine lv_iload hx hb dX8_does_657 (lv_at hl 1 rfl) ?_
                refine lv_aload_n hx hb dX8_does_659 rfl (lv_at hl 2 rfl) ?_
                refine h_get hx hb hown E hM (hp_m (hY.c1 0 rfl)) gC_X8 3 (by decide) (v := .ref (la 1 0)) rfl kw_1027 dX8_does_660 ?_
                refine lv_iload hx hb dX8_does_663 (lv_at hl 1 rfl) ?_
                obtain ⟨c97, h⟩ := gchk_e h
                refine l_iald hx hb E hM (hp_m (hY.c1 1 rfl)) c97 (v := (gi ν96 1 q92.toNatClampNeg)) rfl dX8_does_665 ?_
                obtain ⟨q98, hq98, h⟩ := gbind_e h
                refine h_callC (As := [.int q92, .int (gi ν96 1 q92.toNatClampNeg)]) (rest := []) hx hb (hml.trans hl.1.symm) hown E hM hS hy_X7_setCollimation kw_1535 (c_X7_setCollimation hq98) hk_0 dd_0 rfl rfl rfl (Nat.le_of_ble_eq_true rfl) ⟨(Nat.le_of_ble_eq_true rfl), (Nat.le_of_ble_eq_true rfl)⟩ ⟨(show _ ≤ 6807 by omega), (show _ ≤ 27244 by omega)⟩ dX8_does_666 (fun H locs hM hS => ?_)
                refine lv_iload hx hb dX8_does_669 (lv_at hl 0 rfl) ?_
                refine lv_icmp_ne (tgt := 678) hx hb dX8_does_671 (by decide) (fun c99 => ?_) (fun c99 => ?_)
                · replace h := gif_f c99 h
                  refine lv_iconst (v := (0 : Int32)) hx hb dX8_does_678 (by decide) ?_
                  obtain rfl := Option.some.inj h
                  exact h_zret (v := b2i false) hx hb hr hlocks (by omega) (by omega) (b2i_nar false) ⟨_, rfl, ⟨hs, hf, hW.drop hM⟩, hoo⟩ hS dX8_does_679
                · replace h := gif_t c99 h
                  refine lv_iconst (v := (1 : Int32)) hx hb dX8_does_674 (by decide) ?_
                  refine lv_goto (tgt := 679) hx hb dX8_does_675 (by decide) ?_
                  obtain rfl := Option.some.inj h
                  exact h_zret (v := b2i true) hx hb hr hlocks (by omega) (by omega) (b2i_nar true) ⟨_, rfl, ⟨hs, hf, hW.drop hM⟩, hoo⟩ hS dX8_does_679
              · replace h := gif_f c11 h
                refine lv_tableOut (tgt := 680) hx hb dX8_does_45 (l_sw7 c5 c6 c7 c8 c9 c10 c11) (by decide) ?_
                refine lv_iconst (v := (1 : Int32)) hx hb dX8_does_680 (by decide) ?_
                refine lv_iload_n hx hb dX8_does_681 rfl (lv_at hl 1 rfl) ?_
                refine lv_bipush (v := (12 : Int32)) hx hb dX8_does_682 (by decide) ?_
                refine lv_ishr hx hb dX8_does_684 ?_
                refine lv_bipush (v := (30 : Int32)) hx hb dX8_does_685 (by decide) ?_
                obtain ⟨q100, hq100, h⟩ := gbind_e h
                refine h_callSCN (As := [.int (x1 >>> ((12 : Int32) &&& 31)), .int (30 : Int32)]) (rest := [.int (1 : Int32)]) hx hb (hml.trans hl.1.symm) hown E hM hS hy_L_mod (E.2.1.2.2.1 _ (List.mem_of_getElem? (i := 1) rfl)) (c_L_mod hq100) rfl rfl (Nat.le_of_ble_eq_true rfl) ⟨(Nat.le_of_ble_eq_true rfl), (Nat.le_of_ble_eq_true rfl)⟩ ⟨(show _ ≤ 6807 by omega), (show _ ≤ 27244 by omega)⟩ dX8_does_687 (fun H locs hM hS => ?_)
                refine lv_iadd hx hb dX8_does_690 ?_
                refine lv_istore (lv' := [(5, .int ((1 : Int32) + q100)), (0, .ref (la 0 0)), (1, .int x1), (2, .int x2), (3, .int x3), (4, .int x4)]) hx hb dX8_does_691 hl (by decide) rfl (fun ls hl => ?_)
                refine lv_aload_n hx hb dX8_does_693 rfl (lv_at hl 1 rfl) ?_
                refine h_get hx hb hown E hM (hp_m (hY.c1 0 rfl)) gC_X8 0 (by decide) (v := .ref (ad 0)) rfl kw_1023 dX8_does_694 ?_
                refine lv_iload hx hb dX8_does_697 (lv_at hl 0 rfl) ?_
                obtain ⟨q101, hq101, h⟩ := gbind_e h
                refine h_callC (As := [.int ((1 : Int32) + q100)]) (rest := []) hx hb (hml.trans hl.1.symm) hown E hM hS hy_X7_adjust kw_1543 (c_X7_adjust hq101) hk_0 dd_0 rfl rfl rfl (Nat.le_of_ble_eq_true rfl) ⟨(Nat.le_of_ble_eq_true rfl), (Nat.le_of_ble_eq_true rfl)⟩ ⟨(show _ ≤ 6807 by omega), (show _ ≤ 27244 by omega)⟩ dX8_does_699 (fun H locs hM hS => ?_)
                refine lv_aload_n hx hb dX8_does_702 rfl (lv_at hl 1 rfl) ?_
                refine lv_iload hx hb dX8_does_703 (lv_at hl 0 rfl) ?_
                obtain ⟨q102, hq102, h⟩ := gbind_e h
                refine h_callV (As := [.int ((1 : Int32) + q100)]) (rest := [.int q101.1]) hx hb (hml.trans hl.1.symm) hown E hM hS xy_X8_adjusts kw_1544 (c_L_adjusts hs hf hq102) (hp_m (hY.c1 0 rfl)) gC_X8.1 rfl rfl (Nat.le_of_ble_eq_true rfl) ⟨(Nat.le_of_ble_eq_true rfl), (Nat.le_of_ble_eq_true rfl)⟩ ⟨(show _ ≤ 6807 by omega), (show _ ≤ 27244 by omega)⟩ dX8_does_705 (fun rv H locs hZ hS => ?_)
                obtain ⟨la103, rfl, ⟨hs, hf, hM⟩, ho1⟩ := hZ
                replace hoo := ho1.trans hoo
                rw [← ho1] at hl
                have hY := lY_self (cy := cy) (ad := ad) (la := la103) hs hf
                refine lv_icmp_ne (tgt := 715) hx hb dX8_does_708 (by decide) (fun c104 => ?_) (fun c104 => ?_)
                · replace h := gif_f c104 h
                  refine lv_iconst (v := (0 : Int32)) hx hb dX8_does_715 (by decide) ?_
                  obtain rfl := Option.some.inj h
                  exact h_zret (v := b2i false) hx hb hr hlocks (by omega) (by omega) (b2i_nar false) ⟨_, rfl, ⟨hs, hf, hW.drop hM⟩, hoo⟩ hS dX8_does_716
                · replace h := gif_t c104 h
                  refine lv_iconst (v := (1 : Int32)) hx hb dX8_does_711 (by decide) ?_
                  refine lv_goto (tgt := 716) hx hb dX8_does_712 (by decide) ?_
                  obtain rfl := Option.some.inj h
                  exact h_zret (v := b2i true) hx hb hr hlocks (by omega) (by omega) (b2i_nar true) ⟨_, rfl, ⟨hs, hf, hW.drop hM⟩, hoo⟩ hS dX8_does_716
def f_L_does (p1 : Int32) (ν μ : gM) : Option ((Bool) × gM × gM) :=
  Option.bind (f_L_mod (p1 >>> ((4 : Int32) &&& 31)) (gi ν 0 2) μ) (fun q1 => Option.bind (f_L_mod (p1 >>> ((8 : Int32) &&& 31)) (gi ν 0 1) μ) (fun q2 => Option.bind (f_L_mod p1 (9 : Int32) μ) (fun q3 => if ((7 : Int32) ≤ q3) then j_L_does_43 p1 q1 q2 q3 ν μ else Option.bind (some (si ν 0 10 0)) (fun ν105 => j_L_does_43 p1 q1 q2 q3 ν105 μ))))
set_option maxHeartbeats 4000000 in
set_option maxRecDepth 100000 in
theorem c_L_does {l : Launch} {D : va_G} {cy : Nat → ClassId} {ad : Nat → Nat} {b : Nat} {la : Nat → Nat → Nat} {μ ν : gM} {p1 : Int32} {RES : (Bool) × gM × gM} (hs : lS ν) (hf : lF ν) (h : f_L_does p1 ν μ = some RES) : Met l yX8_does [.code yX8_does cX8_does 9 (some .boolean)] ({ frames := 7, cells := 6807, slots := 27244, locals := 161 } : Room) (va_Pc [.ref (la 0 0), .int p1] (hB l D cy ad b μ (lws cy ad la ν) [])) (hQ b (fun rv H => ∃ la1 : Nat → Nat → Nat, rv = some (.int (b2i RES.1)) ∧ hV D cy ad la1 b RES.2.2 RES.2.1 [] H ∧ la1 0 0 = (la 0 0))) 6807 27244 (hA b) := by
  refine Met.ofW (cc := cX8_does) (maxL := 9) (ret := (some .boolean)) (by decide +kernel) rfl ?_
  intro p e s m args below meth c s₁ B hml0 hv
  obtain ⟨rfl, E, hM⟩ := hv
  have hY := lY_self (cy := cy) (ad := ad) (la := la) hs hf
  have hoo : la 0 0 = la 0 0 := rfl
  have F : gF p s m meth c cX8_does RX8 9 (some .boolean) := gF_of B hml0
  obtain ⟨hx, hb, hml, hown, hlocks, hr⟩ := id F
  have hS : va_S (hA b) s.heap s.heap [] := va_S.rf
  have hl := lv_entry ([.ref (la 0 0), .int p1]) (n := 9) (Nat.le_of_ble_eq_true rfl)
  rw [lg_entry_eq]
  generalize (lg_sl ([.ref (la 0 0), .int p1]) ++ List.replicate (9 - (lg_sl ([.ref (la 0 0), .int p1])).length) Slot.unset).toArray = ls at hl ⊢
  have hl : lv_has ls 9 [(0, .ref (la 0 0)), (1, .int p1)] := hl
  unfold f_L_does at h
  refine lv_iload_n hx hb dX8_does_0 rfl (lv_at hl 1 rfl) ?_
  refine lv_iconst (v := (4 : Int32)) hx hb dX8_does_1 (by decide) ?_
  refine lv_ishr hx hb dX8_does_2 ?_
  refine lv_aload_n hx hb dX8_does_3 rfl (lv_at hl 0 rfl) ?_
  refine h_get hx hb hown E hM (hp_m (hY.c1 0 rfl)) gC_X8 2 (by decide) (v := .int (gi ν 0 2)) rfl kw_1026 dX8_does_4 ?_
  obtain ⟨q1, hq1, h⟩ := gbind_e h
  refine h_callSCN (As := [.int (p1 >>> ((4 : Int32) &&& 31)), .int (gi ν 0 2)]) (rest := []) hx hb (hml.trans hl.1.symm) hown E hM hS hy_L_mod (E.2.1.2.2.1 _ (List.mem_of_getElem? (i := 1) rfl)) (c_L_mod hq1) rfl rfl (Nat.le_of_ble_eq_true rfl) ⟨(Nat.le_of_ble_eq_true rfl), (Nat.le_of_ble_eq_true rfl)⟩ ⟨(show _ ≤ 6807 by omega), (show _ ≤ 27244 by omega)⟩ dX8_does_7 (fun H locs hM hS => ?_)
  refine lv_istore_n (lv' := [(2, .int q1), (0, .ref (la 0 0)), (1, .int p1)]) hx hb dX8_does_10 rfl hl (by decide) rfl (fun ls hl => ?_)
  refine lv_iload_n hx hb dX8_does_11 rfl (lv_at hl 2 rfl) ?_
  refine lv_bipush (v := (8 : Int32)) hx hb dX8_does_12 (by decide) ?_
  refine lv_ishr hx hb dX8_does_14 ?_
  refine lv_aload_n hx hb dX8_does_15 rfl (lv_at hl 1 rfl) ?_
  refine h_get hx hb hown E hM (hp_m (hY.c1 0 rfl)) gC_X8 1 (by decide) (v := .int (gi ν 0 1)) rfl kw_1025 dX8_does_16 ?_
  obtain ⟨q2, hq2, h⟩ := gbind_e h
  refine h_callSCN (As := [.int (p1 >>> ((8 : Int32) &&& 31)), .int (gi ν 0 1)]) (rest := []) hx hb (hml.trans hl.1.symm) hown E hM hS hy_L_mod (E.2.1.2.2.1 _ (List.mem_of_getElem? (i := 1) rfl)) (c_L_mod hq2) rfl rfl (Nat.le_of_ble_eq_true rfl) ⟨(Nat.le_of_ble_eq_true rfl), (Nat.le_of_ble_eq_true rfl)⟩ ⟨(show _ ≤ 6807 by omega), (show _ ≤ 27244 by omega)⟩ dX8_does_19 (fun H locs hM hS => ?_)
  refine lv_istore_n (lv' := [(3, .int q2), (2, .int q1), (0, .ref (la 0 0)), (1, .int p1)]) hx hb dX8_does_22 rfl hl (by decide) rfl (fun ls hl => ?_)
  refine lv_iload_n hx hb dX8_does_23 rfl (lv_at hl 3 rfl) ?_
  refine lv_bipush (v := (9 : Int32)) hx hb dX8_does_24 (by decide) ?_
  obtain ⟨q3, hq3, h⟩ := gbind_e h
  refine h_callSCN (As := [.int p1, .int (9 : Int32)]) (rest := []) hx hb (hml.trans hl.1.symm) hown E hM hS hy_L_mod (E.2.1.2.2.1 _ (List.mem_of_getElem? (i := 1) rfl)) (c_L_mod hq3) rfl rfl (Nat.le_of_ble_eq_true rfl) ⟨(Nat.le_of_ble_eq_true rfl), (Nat.le_of_ble_eq_true rfl)⟩ ⟨(show _ ≤ 6807 by omega), (show _ ≤ 27244 by omega)⟩ dX8_does_26 (fun H locs hM hS => ?_)
  refine lv_istore (lv' := [(4, .int q3), (3, .int q2), (2, .int q1), (0, .ref (la 0 0)), (1, .int p1)]) hx hb dX8_does_29 hl (by decide) rfl (fun ls hl => ?_)
  refine lv_iload hx hb dX8_does_31 (lv_at hl 0 rfl) ?_
  refine lv_bipush (v := (7 : Int32)) hx hb dX8_does_33 (by decide) ?_
  refine lv_icmp_ge (tgt := 43) hx hb dX8_does_35 (by decide) (fun c4 => ?_) (fun c4 => ?_)
  · replace h := gif_t c4 h
    exact wj_L_does_43 h F E hoo (by omega) (by omega) ⟨hs, hf, hM⟩ hS (lv_sub hl [3, 4, 2, 1, 0] rfl)
  · replace h := gif_f c4 h
    refine lv_aload_n hx hb dX8_does_38 rfl (lv_at hl 3 rfl) ?_
    refine lv_null hx hb dX8_does_39 ?_
    refine lw_hnull hx hb hown E hM hS kw_1034 dX8_does_40 (fun H locs hM hS => ?_)
    obtain ⟨ν105, hν105, h⟩ := gupd h
    rw [← hν105] at hM
    replace hf : lF ν105 := by rw [hν105]; exact (lAgH.F lAgH_n hf)
    replace hs : lS ν105 := by rw [hν105]; exact (lAgH.S lAgH_n hs)
    have hY := lY_self (cy := cy) (ad := ad) (la := la) hs hf
    exact wj_L_does_43 h F E hoo (by omega) (by omega) ⟨hs, hf, hM⟩ hS (lv_sub hl [3, 4, 2, 1, 0] rfl)

theorem dX8_areLoops_0 : decode cX8_areLoops 0 = .ok (.aload_n 0, 1) := by decide +kernel
theorem dX8_areLoops_1 : decode cX8_areLoops 1 = .ok (.getfield 12, 3) := by decide +kernel
theorem dX8_areLoops_4 : decode cX8_areLoops 4 = .ok (.invokevirtual 204, 3) := by decide +kernel
theorem dX8_areLoops_7 : decode cX8_areLoops 7 = .ok (.istore_n 1, 1) := by decide +kernel
theorem dX8_areLoops_8 : decode cX8_areLoops 8 = .ok (.iconst 0, 1) := by decide +kernel
theorem dX8_areLoops_9 : decode cX8_areLoops 9 = .ok (.istore_n 2, 1) := by decide +kernel
theorem dX8_areLoops_10 : decode cX8_areLoops 10 = .ok (.iconst 0, 1) := by decide +kernel
theorem dX8_areLoops_11 : decode cX8_areLoops 11 = .ok (.istore_n 3, 1) := by decide +kernel
theorem dX8_areLoops_12 : decode cX8_areLoops 12 = .ok (.iload_n 3, 1) := by decide +kernel
theorem dX8_areLoops_13 : decode cX8_areLoops 13 = .ok (.aload_n 0, 1) := by decide +kernel
theorem dX8_areLoops_14 : decode cX8_areLoops 14 = .ok (.getfield 47, 3) := by decide +kernel
theorem dX8_areLoops_17 : decode cX8_areLoops 17 = .ok (.if_icmp .ge 26, 3) := by decide +kernel
theorem dX8_areLoops_20 : decode cX8_areLoops 20 = .ok (.iload_n 2, 1) := by decide +kernel
theorem dX8_areLoops_21 : decode cX8_areLoops 21 = .ok (.aload_n 0, 1) := by decide +kernel
theorem dX8_areLoops_22 : decode cX8_areLoops 22 = .ok (.getfield 58, 3) := by decide +kernel
theorem dX8_areLoops_25 : decode cX8_areLoops 25 = .ok (.iload_n 3, 1) := by decide +kernel
theorem dX8_areLoops_26 : decode cX8_areLoops 26 = .ok (.baload, 1) := by decide +kernel
theorem dX8_areLoops_27 : decode cX8_areLoops 27 = .ok (.ifCond .eq 7, 3) := by decide +kernel
theorem dX8_areLoops_30 : decode cX8_areLoops 30 = .ok (.iconst 1, 1) := by decide +kernel
theorem dX8_areLoops_31 : decode cX8_areLoops 31 = .ok (.goto 4, 3) := by decide +kernel
theorem dX8_areLoops_34 : decode cX8_areLoops 34 = .ok (.iconst 0, 1) := by decide +kernel
theorem dX8_areLoops_35 : decode cX8_areLoops 35 = .ok (.iadd, 1) := by decide +kernel
theorem dX8_areLoops_36 : decode cX8_areLoops 36 = .ok (.istore_n 2, 1) := by decide +kernel
theorem dX8_areLoops_37 : decode cX8_areLoops 37 = .ok (.iinc 3 1, 3) := by decide +kernel
theorem dX8_areLoops_40 : decode cX8_areLoops 40 = .ok (.goto (-28), 3) := by decide +kernel
theorem dX8_areLoops_43 : decode cX8_areLoops 43 = .ok (.iload_n 1, 1) := by decide +kernel
theorem dX8_areLoops_44 : decode cX8_areLoops 44 = .ok (.invokestatic 207, 3) := by decide +kernel
theorem dX8_areLoops_47 : decode cX8_areLoops 47 = .ok (.aload_n 0, 1) := by decide +kernel
theorem dX8_areLoops_48 : decode cX8_areLoops 48 = .ok (.getfield 43, 3) := by decide +kernel
theorem dX8_areLoops_51 : decode cX8_areLoops 51 = .ok (.aload_n 0, 1) := by decide +kernel
theorem dX8_areLoops_52 : decode cX8_areLoops 52 = .ok (.getfield 12, 3) := by decide +kernel
theorem dX8_areLoops_55 : decode cX8_areLoops 55 = .ok (.invokevirtual 191, 3) := by decide +kernel
theorem dX8_areLoops_58 : decode cX8_areLoops 58 = .ok (.isub, 1) := by decide +kernel
theorem dX8_areLoops_59 : decode cX8_areLoops 59 = .ok (.if_icmp .ne 19, 3) := by decide +kernel
theorem dX8_areLoops_62 : decode cX8_areLoops 62 = .ok (.aload_n 0, 1) := by decide +kernel
theorem dX8_areLoops_63 : decode cX8_areLoops 63 = .ok (.getfield 12, 3) := by decide +kernel
theorem dX8_areLoops_66 : decode cX8_areLoops 66 = .ok (.invokevirtual 212, 3) := by decide +kernel
theorem dX8_areLoops_69 : decode cX8_areLoops 69 = .ok (.iload_n 2, 1) := by decide +kernel
theorem dX8_areLoops_70 : decode cX8_areLoops 70 = .ok (.iload_n 1, 1) := by decide +kernel
theorem dX8_areLoops_71 : decode cX8_areLoops 71 = .ok (.invokestatic 207, 3) := by decide +kernel
theorem dX8_areLoops_74 : decode cX8_areLoops 74 = .ok (.isub, 1) := by decide +kernel
theorem dX8_areLoops_75 : decode cX8_areLoops 75 = .ok (.if_icmp .eq 5, 3) := by decide +kernel
theorem dX8_areLoops_78 : decode cX8_areLoops 78 = .ok (.iconst 0, 1) := by decide +kernel
theorem dX8_areLoops_79 : decode cX8_areLoops 79 = .ok (.ireturn, 1) := by decide +kernel
theorem dX8_areLoops_80 : decode cX8_areLoops 80 = .ok (.iconst 0, 1) := by decide +kernel
theorem dX8_areLoops_81 : decode cX8_areLoops 81 = .ok (.istore_n 3, 1) := by decide +kernel
theorem dX8_areLoops_82 : decode cX8_areLoops 82 = .ok (.iconst 0, 1) := by decide +kernel
theorem dX8_areLoops_83 : decode cX8_areLoops 83 = .ok (.istore 4, 2) := by decide +kernel
theorem dX8_areLoops_85 : decode cX8_areLoops 85 = .ok (.iconst 0, 1) := by decide +kernel
theorem dX8_areLoops_86 : decode cX8_areLoops 86 = .ok (.istore 5, 2) := by decide +kernel
theorem dX8_areLoops_88 : decode cX8_areLoops 88 = .ok (.iload 5, 2) := by decide +kernel
theorem dX8_areLoops_90 : decode cX8_areLoops 90 = .ok (.aload_n 0, 1) := by decide +kernel
theorem dX8_areLoops_91 : decode cX8_areLoops 91 = .ok (.getfield 47, 3) := by decide +kernel
theorem dX8_areLoops_94 : decode cX8_areLoops 94 = .ok (.if_icmp .ge 369, 3) := by decide +kernel
theorem dX8_areLoops_97 : decode cX8_areLoops 97 = .ok (.aload_n 0, 1) := by decide +kernel
theorem dX8_areLoops_98 : decode cX8_areLoops 98 = .ok (.getfield 58, 3) := by decide +kernel
theorem dX8_areLoops_101 : decode cX8_areLoops 101 = .ok (.iload 5, 2) := by decide +kernel
theorem dX8_areLoops_103 : decode cX8_areLoops 103 = .ok (.baload, 1) := by decide +kernel
theorem dX8_areLoops_104 : decode cX8_areLoops 104 = .ok (.ifCond .eq 353, 3) := by decide +kernel
theorem dX8_areLoops_107 : decode cX8_areLoops 107 = .ok (.iload_n 1, 1) := by decide +kernel
theorem dX8_areLoops_108 : decode cX8_areLoops 108 = .ok (.iload 5, 2) := by decide +kernel
theorem dX8_areLoops_110 : decode cX8_areLoops 110 = .ok (.ishr, 1) := by decide +kernel
theorem dX8_areLoops_111 : decode cX8_areLoops 111 = .ok (.iconst 1, 1) := by decide +kernel
theorem dX8_areLoops_112 : decode cX8_areLoops 112 = .ok (.iand, 1) := by decide +kernel
theorem dX8_areLoops_113 : decode cX8_areLoops 113 = .ok (.iconst 1, 1) := by decide +kernel
theorem dX8_areLoops_114 : decode cX8_areLoops 114 = .ok (.if_icmp .ne 6, 3) := by decide +kernel
theorem dX8_areLoops_117 : decode cX8_areLoops 117 = .ok (.goto 340, 3) := by decide +kernel
theorem dX8_areLoops_120 : decode cX8_areLoops 120 = .ok (.aload_n 0, 1) := by decide +kernel
theorem dX8_areLoops_121 : decode cX8_areLoops 121 = .ok (.getfield 52, 3) := by decide +kernel
theorem dX8_areLoops_124 : decode cX8_areLoops 124 = .ok (.iload 5, 2) := by decide +kernel
theorem dX8_areLoops_126 : decode cX8_areLoops 126 = .ok (.aaload, 1) := by decide +kernel
theorem dX8_areLoops_127 : decode cX8_areLoops 127 = .ok (.iconst 0, 1) := by decide +kernel
theorem dX8_areLoops_128 : decode cX8_areLoops 128 = .ok (.iaload, 1) := by decide +kernel
theorem dX8_areLoops_129 : decode cX8_areLoops 129 = .ok (.istore 6, 2) := by decide +kernel
theorem dX8_areLoops_131 : decode cX8_areLoops 131 = .ok (.iconst 0, 1) := by decide +kernel
theorem dX8_areLoops_132 : decode cX8_areLoops 132 = .ok (.istore 7, 2) := by decide +kernel
theorem dX8_areLoops_134 : decode cX8_areLoops 134 = .ok (.iconst 0, 1) := by decide +kernel
theorem dX8_areLoops_135 : decode cX8_areLoops 135 = .ok (.istore 8, 2) := by decide +kernel
theorem dX8_areLoops_137 : decode cX8_areLoops 137 = .ok (.iconst 0, 1) := by decide +kernel
theorem dX8_areLoops_138 : decode cX8_areLoops 138 = .ok (.istore 9, 2) := by decide +kernel
theorem dX8_areLoops_140 : decode cX8_areLoops 140 = .ok (.iconst 0, 1) := by decide +kernel
theorem dX8_areLoops_141 : decode cX8_areLoops 141 = .ok (.istore 10, 2) := by decide +kernel
theorem dX8_areLoops_143 : decode cX8_areLoops 143 = .ok (.aload_n 0, 1) := by decide +kernel
theorem dX8_areLoops_144 : decode cX8_areLoops 144 = .ok (.getfield 12, 3) := by decide +kernel
theorem dX8_areLoops_147 : decode cX8_areLoops 147 = .ok (.iload_n 3, 1) := by decide +kernel
theorem dX8_areLoops_148 : decode cX8_areLoops 148 = .ok (.iconst 0, 1) := by decide +kernel
theorem dX8_areLoops_149 : decode cX8_areLoops 149 = .ok (.invokevirtual 215, 3) := by decide +kernel
theorem dX8_areLoops_152 : decode cX8_areLoops 152 = .ok (.istore 11, 2) := by decide +kernel
theorem dX8_areLoops_154 : decode cX8_areLoops 154 = .ok (.iload 11, 2) := by decide +kernel
theorem dX8_areLoops_156 : decode cX8_areLoops 156 = .ok (.ifCond .lt 170, 3) := by decide +kernel
theorem dX8_areLoops_159 : decode cX8_areLoops 159 = .ok (.iload 11, 2) := by decide +kernel
theorem dX8_areLoops_161 : decode cX8_areLoops 161 = .ok (.bipush 100, 2) := by decide +kernel
theorem dX8_areLoops_163 : decode cX8_areLoops 163 = .ok (.irem, 1) := by decide +kernel
theorem dX8_areLoops_164 : decode cX8_areLoops 164 = .ok (.istore 12, 2) := by decide +kernel
theorem dX8_areLoops_166 : decode cX8_areLoops 166 = .ok (.iload 11, 2) := by decide +kernel
theorem dX8_areLoops_168 : decode cX8_areLoops 168 = .ok (.bipush 100, 2) := by decide +kernel
theorem dX8_areLoops_170 : decode cX8_areLoops 170 = .ok (.if_icmp .lt 7, 3) := by decide +kernel
theorem dX8_areLoops_173 : decode cX8_areLoops 173 = .ok (.iconst 1, 1) := by decide +kernel
theorem dX8_areLoops_174 : decode cX8_areLoops 174 = .ok (.goto 4, 3) := by decide +kernel
theorem dX8_areLoops_177 : decode cX8_areLoops 177 = .ok (.iconst 0, 1) := by decide +kernel
theorem dX8_areLoops_178 : decode cX8_areLoops 178 = .ok (.istore 13, 2) := by decide +kernel
theorem dX8_areLoops_180 : decode cX8_areLoops 180 = .ok (.iload 10, 2) := by decide +kernel
theorem dX8_areLoops_182 : decode cX8_areLoops 182 = .ok (.ifCond .ne 13, 3) := by decide +kernel
theorem dX8_areLoops_185 : decode cX8_areLoops 185 = .ok (.iload 11, 2) := by decide +kernel
theorem dX8_areLoops_187 : decode cX8_areLoops 187 = .ok (.iload 5, 2) := by decide +kernel
theorem dX8_areLoops_189 : decode cX8_areLoops 189 = .ok (.if_icmp .eq 28, 3) := by decide +kernel
theorem dX8_areLoops_192 : decode cX8_areLoops 192 = .ok (.goto 23, 3) := by decide +kernel
theorem dX8_areLoops_195 : decode cX8_areLoops 195 = .ok (.iload_n 1, 1) := by decide +kernel
theorem dX8_areLoops_196 : decode cX8_areLoops 196 = .ok (.iload 12, 2) := by decide +kernel
theorem dX8_areLoops_198 : decode cX8_areLoops 198 = .ok (.ishr, 1) := by decide +kernel
theorem dX8_areLoops_199 : decode cX8_areLoops 199 = .ok (.iconst 1, 1) := by decide +kernel
theorem dX8_areLoops_200 : decode cX8_areLoops 200 = .ok (.iand, 1) := by decide +kernel
theorem dX8_areLoops_201 : decode cX8_areLoops 201 = .ok (.ifCond .eq 14, 3) := by decide +kernel
theorem dX8_areLoops_204 : decode cX8_areLoops 204 = .ok (.iload 9, 2) := by decide +kernel
theorem dX8_areLoops_206 : decode cX8_areLoops 206 = .ok (.iload 12, 2) := by decide +kernel
theorem dX8_areLoops_208 : decode cX8_areLoops 208 = .ok (.ishr, 1) := by decide +kernel
theorem dX8_areLoops_209 : decode cX8_areLoops 209 = .ok (.iconst 1, 1) := by decide +kernel
theorem dX8_areLoops_210 : decode cX8_areLoops 210 = .ok (.iand, 1) := by decide +kernel
theorem dX8_areLoops_211 : decode cX8_areLoops 211 = .ok (.iconst 1, 1) := by decide +kernel
theorem dX8_areLoops_212 : decode cX8_areLoops 212 = .ok (.if_icmp .ne 5, 3) := by decide +kernel
theorem dX8_areLoops_215 : decode cX8_areLoops 215 = .ok (.iconst 0, 1) := by decide +kernel
theorem dX8_areLoops_216 : decode cX8_areLoops 216 = .ok (.ireturn, 1) := by decide +kernel
theorem dX8_areLoops_217 : decode cX8_areLoops 217 = .ok (.aload_n 0, 1) := by decide +kernel
theorem dX8_areLoops_218 : decode cX8_areLoops 218 = .ok (.getfield 52, 3) := by decide +kernel
theorem dX8_areLoops_221 : decode cX8_areLoops 221 = .ok (.iload 12, 2) := by decide +kernel
theorem dX8_areLoops_223 : decode cX8_areLoops 223 = .ok (.aaload, 1) := by decide +kernel
theorem dX8_areLoops_224 : decode cX8_areLoops 224 = .ok (.iload 13, 2) := by decide +kernel
theorem dX8_areLoops_226 : decode cX8_areLoops 226 = .ok (.ifCond .eq 7, 3) := by decide +kernel
theorem dX8_areLoops_229 : decode cX8_areLoops 229 = .ok (.iconst 1, 1) := by decide +kernel
theorem dX8_areLoops_230 : decode cX8_areLoops 230 = .ok (.goto 4, 3) := by decide +kernel
theorem dX8_areLoops_233 : decode cX8_areLoops 233 = .ok (.iconst 0, 1) := by decide +kernel
theorem dX8_areLoops_234 : decode cX8_areLoops 234 = .ok (.iaload, 1) := by decide +kernel
theorem dX8_areLoops_235 : decode cX8_areLoops 235 = .ok (.iload 6, 2) := by decide +kernel
theorem dX8_areLoops_237 : decode cX8_areLoops 237 = .ok (.if_icmp .eq 5, 3) := by decide +kernel
theorem dX8_areLoops_240 : decode cX8_areLoops 240 = .ok (.iconst 0, 1) := by decide +kernel
theorem dX8_areLoops_241 : decode cX8_areLoops 241 = .ok (.ireturn, 1) := by decide +kernel
theorem dX8_areLoops_242 : decode cX8_areLoops 242 = .ok (.aload_n 0, 1) := by decide +kernel
theorem dX8_areLoops_243 : decode cX8_areLoops 243 = .ok (.getfield 52, 3) := by decide +kernel
theorem dX8_areLoops_246 : decode cX8_areLoops 246 = .ok (.iload 12, 2) := by decide +kernel
theorem dX8_areLoops_248 : decode cX8_areLoops 248 = .ok (.aaload, 1) := by decide +kernel
theorem dX8_areLoops_249 : decode cX8_areLoops 249 = .ok (.iload 13, 2) := by decide +kernel
theorem dX8_areLoops_251 : decode cX8_areLoops 251 = .ok (.ifCond .eq 7, 3) := by decide +kernel
theorem dX8_areLoops_254 : decode cX8_areLoops 254 = .ok (.iconst 0, 1) := by decide +kernel
theorem dX8_areLoops_255 : decode cX8_areLoops 255 = .ok (.goto 4, 3) := by decide +kernel
theorem dX8_areLoops_258 : decode cX8_areLoops 258 = .ok (.iconst 1, 1) := by decide +kernel
theorem dX8_areLoops_259 : decode cX8_areLoops 259 = .ok (.iaload, 1) := by decide +kernel
theorem dX8_areLoops_260 : decode cX8_areLoops 260 = .ok (.istore 6, 2) := by decide +kernel
theorem dX8_areLoops_262 : decode cX8_areLoops 262 = .ok (.iload 7, 2) := by decide +kernel
theorem dX8_areLoops_264 : decode cX8_areLoops 264 = .ok (.iload 13, 2) := by decide +kernel
theorem dX8_areLoops_266 : decode cX8_areLoops 266 = .ok (.ifCond .eq 13, 3) := by decide +kernel
theorem dX8_areLoops_269 : decode cX8_areLoops 269 = .ok (.aload_n 0, 1) := by decide +kernel
theorem dX8_areLoops_270 : decode cX8_areLoops 270 = .ok (.iload 12, 2) := by decide +kernel
theorem dX8_areLoops_272 : decode cX8_areLoops 272 = .ok (.invokevirtual 165, 3) := by decide +kernel
theorem dX8_areLoops_275 : decode cX8_areLoops 275 = .ok (.ineg, 1) := by decide +kernel
theorem dX8_areLoops_276 : decode cX8_areLoops 276 = .ok (.goto 9, 3) := by decide +kernel
theorem dX8_areLoops_279 : decode cX8_areLoops 279 = .ok (.aload_n 0, 1) := by decide +kernel
theorem dX8_areLoops_280 : decode cX8_areLoops 280 = .ok (.iload 12, 2) := by decide +kernel
theorem dX8_areLoops_282 : decode cX8_areLoops 282 = .ok (.invokevirtual 165, 3) := by decide +kernel
theorem dX8_areLoops_285 : decode cX8_areLoops 285 = .ok (.iadd, 1) := by decide +kernel
theorem dX8_areLoops_286 : decode cX8_areLoops 286 = .ok (.istore 7, 2) := by decide +kernel
theorem dX8_areLoops_288 : decode cX8_areLoops 288 = .ok (.iload 8, 2) := by decide +kernel
theorem dX8_areLoops_290 : decode cX8_areLoops 290 = .ok (.aload_n 0, 1) := by decide +kernel
theorem dX8_areLoops_291 : decode cX8_areLoops 291 = .ok (.iload 12, 2) := by decide +kernel
theorem dX8_areLoops_293 : decode cX8_areLoops 293 = .ok (.invokevirtual 157, 3) := by decide +kernel
theorem dX8_areLoops_296 : decode cX8_areLoops 296 = .ok (.iadd, 1) := by decide +kernel
theorem dX8_areLoops_297 : decode cX8_areLoops 297 = .ok (.istore 8, 2) := by decide +kernel
theorem dX8_areLoops_299 : decode cX8_areLoops 299 = .ok (.iload 9, 2) := by decide +kernel
theorem dX8_areLoops_301 : decode cX8_areLoops 301 = .ok (.iconst 1, 1) := by decide +kernel
theorem dX8_areLoops_302 : decode cX8_areLoops 302 = .ok (.iload 12, 2) := by decide +kernel
theorem dX8_areLoops_304 : decode cX8_areLoops 304 = .ok (.ishl, 1) := by decide +kernel
theorem dX8_areLoops_305 : decode cX8_areLoops 305 = .ok (.ior, 1) := by decide +kernel
theorem dX8_areLoops_306 : decode cX8_areLoops 306 = .ok (.istore 9, 2) := by decide +kernel
theorem dX8_areLoops_308 : decode cX8_areLoops 308 = .ok (.iinc 10 1, 3) := by decide +kernel
theorem dX8_areLoops_311 : decode cX8_areLoops 311 = .ok (.aload_n 0, 1) := by decide +kernel
theorem dX8_areLoops_312 : decode cX8_areLoops 312 = .ok (.getfield 12, 3) := by decide +kernel
theorem dX8_areLoops_315 : decode cX8_areLoops 315 = .ok (.iload_n 3, 1) := by decide +kernel
theorem dX8_areLoops_316 : decode cX8_areLoops 316 = .ok (.iload 10, 2) := by decide +kernel
theorem dX8_areLoops_318 : decode cX8_areLoops 318 = .ok (.invokevirtual 215, 3) := by decide +kernel
theorem dX8_areLoops_321 : decode cX8_areLoops 321 = .ok (.istore 11, 2) := by decide +kernel
theorem dX8_areLoops_323 : decode cX8_areLoops 323 = .ok (.goto (-169), 3) := by decide +kernel
theorem dX8_areLoops_326 : decode cX8_areLoops 326 = .ok (.aload_n 0, 1) := by decide +kernel
theorem dX8_areLoops_327 : decode cX8_areLoops 327 = .ok (.getfield 12, 3) := by decide +kernel
theorem dX8_areLoops_330 : decode cX8_areLoops 330 = .ok (.iload_n 3, 1) := by decide +kernel
theorem dX8_areLoops_331 : decode cX8_areLoops 331 = .ok (.invokevirtual 218, 3) := by decide +kernel
theorem dX8_areLoops_334 : decode cX8_areLoops 334 = .ok (.i2l, 1) := by decide +kernel
theorem dX8_areLoops_335 : decode cX8_areLoops 335 = .ok (.lstore 11, 2) := by decide +kernel
theorem dX8_areLoops_337 : decode cX8_areLoops 337 = .ok (.ldc2_w 221, 3) := by decide +kernel
theorem dX8_areLoops_340 : decode cX8_areLoops 340 = .ok (.aload_n 0, 1) := by decide +kernel
theorem dX8_areLoops_341 : decode cX8_areLoops 341 = .ok (.getfield 32, 3) := by decide +kernel
theorem dX8_areLoops_344 : decode cX8_areLoops 344 = .ok (.iconst 0, 1) := by decide +kernel
theorem dX8_areLoops_345 : decode cX8_areLoops 345 = .ok (.iaload, 1) := by decide +kernel
theorem dX8_areLoops_346 : decode cX8_areLoops 346 = .ok (.i2l, 1) := by decide +kernel
theorem dX8_areLoops_347 : decode cX8_areLoops 347 = .ok (.lmul, 1) := by decide +kernel
theorem dX8_areLoops_348 : decode cX8_areLoops 348 = .ok (.aload_n 0, 1) := by decide +kernel
theorem dX8_areLoops_349 : decode cX8_areLoops 349 = .ok (.getfield 32, 3) := by decide +kernel
theorem dX8_areLoops_352 : decode cX8_areLoops 352 = .ok (.iconst 0, 1) := by decide +kernel
theorem dX8_areLoops_353 : decode cX8_areLoops 353 = .ok (.iaload, 1) := by decide +kernel
theorem dX8_areLoops_354 : decode cX8_areLoops 354 = .ok (.i2l, 1) := by decide +kernel
theorem dX8_areLoops_355 : decode cX8_areLoops 355 = .ok (.lmul, 1) := by decide +kernel
theorem dX8_areLoops_356 : decode cX8_areLoops 356 = .ok (.iload 8, 2) := by decide +kernel
theorem dX8_areLoops_358 : decode cX8_areLoops 358 = .ok (.i2l, 1) := by decide +kernel
theorem dX8_areLoops_359 : decode cX8_areLoops 359 = .ok (.lmul, 1) := by decide +kernel
theorem dX8_areLoops_360 : decode cX8_areLoops 360 = .ok (.lstore 13, 2) := by decide +kernel
theorem dX8_areLoops_362 : decode cX8_areLoops 362 = .ok (.iload 6, 2) := by decide +kernel
theorem dX8_areLoops_364 : decode cX8_areLoops 364 = .ok (.aload_n 0, 1) := by decide +kernel
theorem dX8_areLoops_365 : decode cX8_areLoops 365 = .ok (.getfield 52, 3) := by decide +kernel
theorem dX8_areLoops_368 : decode cX8_areLoops 368 = .ok (.iload 5, 2) := by decide +kernel
theorem dX8_areLoops_370 : decode cX8_areLoops 370 = .ok (.aaload, 1) := by decide +kernel
theorem dX8_areLoops_371 : decode cX8_areLoops 371 = .ok (.iconst 0, 1) := by decide +kernel
theorem dX8_areLoops_372 : decode cX8_areLoops 372 = .ok (.iaload, 1) := by decide +kernel
theorem dX8_areLoops_373 : decode cX8_areLoops 373 = .ok (.if_icmp .ne 55, 3) := by decide +kernel
theorem dX8_areLoops_376 : decode cX8_areLoops 376 = .ok (.aload_n 0, 1) := by decide +kernel
theorem dX8_areLoops_377 : decode cX8_areLoops 377 = .ok (.getfield 12, 3) := by decide +kernel
theorem dX8_areLoops_380 : decode cX8_areLoops 380 = .ok (.iload_n 3, 1) := by decide +kernel
theorem dX8_areLoops_381 : decode cX8_areLoops 381 = .ok (.invokevirtual 223, 3) := by decide +kernel
theorem dX8_areLoops_384 : decode cX8_areLoops 384 = .ok (.iload 7, 2) := by decide +kernel
theorem dX8_areLoops_386 : decode cX8_areLoops 386 = .ok (.if_icmp .ne 42, 3) := by decide +kernel
theorem dX8_areLoops_389 : decode cX8_areLoops 389 = .ok (.aload_n 0, 1) := by decide +kernel
theorem dX8_areLoops_390 : decode cX8_areLoops 390 = .ok (.getfield 12, 3) := by decide +kernel
theorem dX8_areLoops_393 : decode cX8_areLoops 393 = .ok (.iload_n 3, 1) := by decide +kernel
theorem dX8_areLoops_394 : decode cX8_areLoops 394 = .ok (.invokevirtual 226, 3) := by decide +kernel
theorem dX8_areLoops_397 : decode cX8_areLoops 397 = .ok (.iload 8, 2) := by decide +kernel
theorem dX8_areLoops_399 : decode cX8_areLoops 399 = .ok (.if_icmp .ne 29, 3) := by decide +kernel
theorem dX8_areLoops_402 : decode cX8_areLoops 402 = .ok (.lload 11, 2) := by decide +kernel
theorem dX8_areLoops_404 : decode cX8_areLoops 404 = .ok (.lload 11, 2) := by decide +kernel
theorem dX8_areLoops_406 : decode cX8_areLoops 406 = .ok (.lmul, 1) := by decide +kernel
theorem dX8_areLoops_407 : decode cX8_areLoops 407 = .ok (.lload 13, 2) := by decide +kernel
theorem dX8_areLoops_409 : decode cX8_areLoops 409 = .ok (.lcmp, 1) := by decide +kernel
theorem dX8_areLoops_410 : decode cX8_areLoops 410 = .ok (.ifCond .gt 18, 3) := by decide +kernel
theorem dX8_areLoops_413 : decode cX8_areLoops 413 = .ok (.lload 11, 2) := by decide +kernel
theorem dX8_areLoops_415 : decode cX8_areLoops 415 = .ok (.lconst 1, 1) := by decide +kernel
theorem dX8_areLoops_416 : decode cX8_areLoops 416 = .ok (.ladd, 1) := by decide +kernel
theorem dX8_areLoops_417 : decode cX8_areLoops 417 = .ok (.lload 11, 2) := by decide +kernel
theorem dX8_areLoops_419 : decode cX8_areLoops 419 = .ok (.lconst 1, 1) := by decide +kernel
theorem dX8_areLoops_420 : decode cX8_areLoops 420 = .ok (.ladd, 1) := by decide +kernel
theorem dX8_areLoops_421 : decode cX8_areLoops 421 = .ok (.lmul, 1) := by decide +kernel
theorem dX8_areLoops_422 : decode cX8_areLoops 422 = .ok (.lload 13, 2) := by decide +kernel
theorem dX8_areLoops_424 : decode cX8_areLoops 424 = .ok (.lcmp, 1) := by decide +kernel
theorem dX8_areLoops_425 : decode cX8_areLoops 425 = .ok (.ifCond .gt 5, 3) := by decide +kernel
theorem dX8_areLoops_428 : decode cX8_areLoops 428 = .ok (.iconst 0, 1) := by decide +kernel
theorem dX8_areLoops_429 : decode cX8_areLoops 429 = .ok (.ireturn, 1) := by decide +kernel
theorem dX8_areLoops_430 : decode cX8_areLoops 430 = .ok (.iload 4, 2) := by decide +kernel
theorem dX8_areLoops_432 : decode cX8_areLoops 432 = .ok (.iload 7, 2) := by decide +kernel
theorem dX8_areLoops_434 : decode cX8_areLoops 434 = .ok (.invokestatic 87, 3) := by decide +kernel
theorem dX8_areLoops_437 : decode cX8_areLoops 437 = .ok (.i2l, 1) := by decide +kernel
theorem dX8_areLoops_438 : decode cX8_areLoops 438 = .ok (.lload 11, 2) := by decide +kernel
theorem dX8_areLoops_440 : decode cX8_areLoops 440 = .ok (.lcmp, 1) := by decide +kernel
theorem dX8_areLoops_441 : decode cX8_areLoops 441 = .ok (.ifCond .le 9, 3) := by decide +kernel
theorem dX8_areLoops_444 : decode cX8_areLoops 444 = .ok (.iconst 1, 1) := by decide +kernel
theorem dX8_areLoops_445 : decode cX8_areLoops 445 = .ok (.iload_n 3, 1) := by decide +kernel
theorem dX8_areLoops_446 : decode cX8_areLoops 446 = .ok (.ishl, 1) := by decide +kernel
theorem dX8_areLoops_447 : decode cX8_areLoops 447 = .ok (.goto 4, 3) := by decide +kernel
theorem dX8_areLoops_450 : decode cX8_areLoops 450 = .ok (.iconst 0, 1) := by decide +kernel
theorem dX8_areLoops_451 : decode cX8_areLoops 451 = .ok (.ior, 1) := by decide +kernel
theorem dX8_areLoops_452 : decode cX8_areLoops 452 = .ok (.istore 4, 2) := by decide +kernel
theorem dX8_areLoops_454 : decode cX8_areLoops 454 = .ok (.iinc 3 1, 3) := by decide +kernel
theorem dX8_areLoops_457 : decode cX8_areLoops 457 = .ok (.iinc 5 1, 3) := by decide +kernel
theorem dX8_areLoops_460 : decode cX8_areLoops 460 = .ok (.goto (-372), 3) := by decide +kernel
theorem dX8_areLoops_463 : decode cX8_areLoops 463 = .ok (.iload_n 3, 1) := by decide +kernel
theorem dX8_areLoops_464 : decode cX8_areLoops 464 = .ok (.aload_n 0, 1) := by decide +kernel
theorem dX8_areLoops_465 : decode cX8_areLoops 465 = .ok (.getfield 12, 3) := by decide +kernel
theorem dX8_areLoops_468 : decode cX8_areLoops 468 = .ok (.invokevirtual 212, 3) := by decide +kernel
theorem dX8_areLoops_471 : decode cX8_areLoops 471 = .ok (.if_icmp .ne 19, 3) := by decide +kernel
theorem dX8_areLoops_474 : decode cX8_areLoops 474 = .ok (.aload_n 0, 1) := by decide +kernel
theorem dX8_areLoops_475 : decode cX8_areLoops 475 = .ok (.getfield 12, 3) := by decide +kernel
theorem dX8_areLoops_478 : decode cX8_areLoops 478 = .ok (.invokevirtual 229, 3) := by decide +kernel
theorem dX8_areLoops_481 : decode cX8_areLoops 481 = .ok (.iload 4, 2) := by decide +kernel
theorem dX8_areLoops_483 : decode cX8_areLoops 483 = .ok (.if_icmp .ne 7, 3) := by decide +kernel
theorem dX8_areLoops_486 : decode cX8_areLoops 486 = .ok (.iconst 1, 1) := by decide +kernel
theorem dX8_areLoops_487 : decode cX8_areLoops 487 = .ok (.goto 4, 3) := by decide +kernel
theorem dX8_areLoops_490 : decode cX8_areLoops 490 = .ok (.iconst 0, 1) := by decide +kernel
theorem dX8_areLoops_491 : decode cX8_areLoops 491 = .ok (.ireturn, 1) := by decide +kernel
def b_L_areLoops_12 (x1 : Int32) (x2 : Int32) (x3 : Int32) (ν μ : gM) : Option ((Int32 × Int32) ⊕ (Int32)) :=
  if ((gi ν 0 2) ≤ x3) then some (.inr x2) else gchk (gIn x3 (lLn ν)) (if ((gi ν 5 x3.toNatClampNeg) = 0) then some (.inl ((x2 + (0 : Int32)), (x3 + (1 : Int32)))) else some (.inl ((x2 + (1 : Int32)), (x3 + (1 : Int32)))))
set_option maxHeartbeats 4000000 in
set_option maxRecDepth 100000 in
theorem wb_L_areLoops_12 {p : Program} {l : Launch} {e : Env} {s : State} {m : MethodId} {args : Array Value} {below : List Frame} {meth : Method} {c : Code} {D : va_G} {cy : Nat → ClassId} {ad : Nat → Nat} {b : Nat} {la : Nat → Nat → Nat} {ν : gM} {P P0 : va_W} {x1 : Int32} {x2 : Int32} {x3 : Int32} {μ : gM}  {o : (Int32 × Int32) ⊕ (Int32)} {RES : (Bool) × gM} {cells slots C0 S0 CM SM : Nat} (h : b_L_areLoops_12 x1 x2 x3 ν μ = some o) (F : gF p s m meth c cX8_areLoops RX8 15 (some .boolean)) (E : hE l D cy ad b s) (hY : lY cy ad la ν P) (hPd : ∀ (μ : gM) (H : Heap), hW D cy ad b μ P [] H → hW D cy ad b μ P0 [] H) (hc : cells + 0 ≤ C0) (hs : slots + 0 ≤ S0) (hcm : C0 ≤ CM) (hsm : S0 ≤ SM) (hcr : CM ≤ 240) (hsr : SM ≤ 960) (kc : ∀ (t : Int32 × Int32) {H : Heap} {locs : List Loc} {ls : Array Slot}, o = .inl t → hW D cy ad b μ P [] H → va_S (hA b) s.heap H locs → lv_has ls 15 [(0, .ref (la 0 0)), (1, .int x1), (2, .int t.1), (3, .int t.2)] → W p l e ({ frames := 7, cells := 240, slots := 960, locals := 163 } : Room) s m args below meth c H locs C0 S0 (MQ below (hQ b (fun rv H => rv = some (.int (b2i RES.1)) ∧ hW D cy ad b RES.2 P0 [] H)) args s 240 960 (hA b)) (F0 m 12 ls [])) (kx : ∀ (t : Int32) {H : Heap} {locs : List Loc} {ls : Array Slot}, o = .inr t → hW D cy ad b μ P [] H → va_S (hA b) s.heap H locs → lv_has ls 15 [(0, .ref (la 0 0)), (1, .int x1), (2, .int t)] → W p l e ({ frames := 7, cells := 240, slots := 960, locals := 163 } : Room) s m args below meth c H locs CM SM (MQ below (hQ b (fun rv H => rv = some (.int (b2i RES.1)) ∧ hW D cy ad b RES.2 P0 [] H)) args s 240 960 (hA b)) (F0 m 43 ls []))  {H : Heap} {locs : List Loc} {ls : Array Slot} (hM : hW D cy ad b μ P [] H) (hS : va_S (hA b) s.heap H locs) (hl : lv_has ls 15 [(0, .ref (la 0 0)), (1, .int x1), (2, .int x2), (3, .int x3)]) : W p l e ({ frames := 7, cells := 240, slots := 960, locals := 163 } : Room) s m args below meth c H locs cells slots (MQ below (hQ b (fun rv H => rv = some (.int (b2i RES.1)) ∧ hW D cy ad b RES.2 P0 [] H)) args s 240 960 (hA b)) (F0 m 12 ls []) := by
  obtain ⟨hx, hb, hml, hown, hlocks, hr⟩ := id F
  unfold b_L_areLoops_12 at h
  refine lv_iload_n hx hb dX8_areLoops_12 rfl (lv_at hl 3 rfl) ?_
  refine lv_aload_n hx hb dX8_areLoops_13 rfl (lv_at hl 0 rfl) ?_
  refine h_get hx hb hown E hM (hp_m (hY.c1 0 rfl)) gC_X8 2 (by decide) (v := .int (gi ν 0 2)) rfl kw_1026 dX8_areLoops_14 ?_
  refine lv_icmp_ge (tgt := 43) hx hb dX8_areLoops_17 (by decide) (fun c2 => ?_) (fun c2 => ?_)
  · replace h := gif_t c2 h
    refine W.widen (k := CM) (n := SM) (by omega) (by omega) ?_
    exact kx _ (Option.some.inj h).symm hM hS (lv_sub hl [0, 1, 2] rfl)
  · replace h := gif_f c2 h
    refine lv_iload_n hx hb dX8_areLoops_20 rfl (lv_at hl 2 rfl) ?_
    refine lv_aload_n hx hb dX8_areLoops_21 rfl (lv_at hl 0 rfl) ?_
    refine h_get hx hb hown E hM (hp_m (hY.c1 0 rfl)) gC_X8 7 (by decide) (v := .ref (la 5 0)) rfl kw_1031 dX8_areLoops_22 ?_
    refine lv_iload_n hx hb dX8_areLoops_25 rfl (lv_at hl 3 rfl) ?_
    obtain ⟨c3, h⟩ := gchk_e h
    refine l_zald hx hb E hM (hp_m (hY.c1 5 rfl)) c3 (v := (gi ν 5 x3.toNatClampNeg)) rfl dX8_areLoops_26 ?_
    refine lv_if_eq (tgt := 34) hx hb dX8_areLoops_27 (by decide) (fun c4 => ?_) (fun c4 => ?_)
    · replace h := gif_t c4 h
      refine lv_iconst (v := (0 : Int32)) hx hb dX8_areLoops_34 (by decide) ?_
      refine lv_iadd hx hb dX8_areLoops_35 ?_
      refine lv_istore_n (lv' := [(2, .int (x2 + (0 : Int32))), (0, .ref (la 0 0)), (1, .int x1), (3, .int x3)]) hx hb dX8_areLoops_36 rfl hl (by decide) rfl (fun ls hl => ?_)
      refine lv_iinc (v := (x3 + (1 : Int32))) (lv' := [(3, .int (x3 + (1 : Int32))), (2, .int (x2 + (0 : Int32))), (0, .ref (la 0 0)), (1, .int x1)]) hx hb dX8_areLoops_37 hl (k := 3) rfl rfl (by decide) rfl (fun ls hl => ?_)
      refine lv_goto (tgt := 12) hx hb dX8_areLoops_40 (by decide) ?_
      refine W.widen (k := C0) (n := S0) (by omega) (by omega) ?_
      exact kc _ (Option.some.inj h).symm hM hS (lv_sub hl [2, 3, 1, 0] rfl)
    · replace h := gif_f c4 h
      refine lv_iconst (v := (1 : Int32)) hx hb dX8_areLoops_30 (by decide) ?_
      refine lv_goto (tgt := 35) hx hb dX8_areLoops_31 (by decide) ?_
      refine lv_iadd hx hb dX8_areLoops_35 ?_
      refine lv_istore_n (lv' := [(2, .int (x2 + (1 : Int32))), (0, .ref (la 0 0)), (1, .int x1), (3, .int x3)]) hx hb dX8_areLoops_36 rfl hl (by decide) rfl (fun ls hl => ?_)
      refine lv_iinc (v := (x3 + (1 : Int32))) (lv' := [(3, .int (x3 + (1 : Int32))), (2, .int (x2 + (1 : Int32))), (0, .ref (la 0 0)), (1, .int x1)]) hx hb dX8_areLoops_37 hl (k := 3) rfl rfl (by decide) rfl (fun ls hl => ?_)
      refine lv_goto (tgt := 12) hx hb dX8_areLoops_40 (by decide) ?_
      refine W.widen (k := C0) (n := S0) (by omega) (by omega) ?_
      exact kc _ (Option.some.inj h).symm hM hS (lv_sub hl [2, 3, 1, 0] rfl)
set_option maxHeartbeats 4000000 in
theorem wl_L_areLoops_12 {p : Program} {l : Launch} {e : Env} {s : State} {m : MethodId} {args : Array Value} {below : List Frame} {meth : Method} {c : Code} {D : va_G} {cy : Nat → ClassId} {ad : Nat → Nat} {b : Nat} {la : Nat → Nat → Nat} {ν : gM} {P P0 : va_W} {x1 : Int32}  {μ : gM}  {r : Int32} {RES : (Bool) × gM} {CM SM : Nat} (F : gF p s m meth c cX8_areLoops RX8 15 (some .boolean)) (E : hE l D cy ad b s) (hY : lY cy ad la ν P) (hPd : ∀ (μ : gM) (H : Heap), hW D cy ad b μ P [] H → hW D cy ad b μ P0 [] H) (hcr : CM ≤ 240) (hsr : SM ≤ 960) (kx : ∀ (t : Int32) {H : Heap} {locs : List Loc} {ls : Array Slot}, r = t → hW D cy ad b μ P [] H → va_S (hA b) s.heap H locs → lv_has ls 15 [(0, .ref (la 0 0)), (1, .int x1), (2, .int t)] → W p l e ({ frames := 7, cells := 240, slots := 960, locals := 163 } : Room) s m args below meth c H locs CM SM (MQ below (hQ b (fun rv H => rv = some (.int (b2i RES.1)) ∧ hW D cy ad b RES.2 P0 [] H)) args s 240 960 (hA b)) (F0 m 43 ls []))  : ∀ (n : Nat) (x2 : Int32) (x3 : Int32)  {cells slots : Nat}, cells + n * 0 ≤ CM → slots + n * 0 ≤ SM → gloop (fun t => b_L_areLoops_12 x1 t.1 t.2 ν μ) n (x2, x3) = some r → ∀ {H : Heap} {locs : List Loc} {ls : Array Slot}, hW D cy ad b μ P [] H → va_S (hA b) s.heap H locs → lv_has ls 15 [(0, .ref (la 0 0)), (1, .int x1), (2, .int x2), (3, .int x3)] → W p l e ({ frames := 7, cells := 240, slots := 960, locals := 163 } : Room) s m args below meth c H locs cells slots (MQ below (hQ b (fun rv H => rv = some (.int (b2i RES.1)) ∧ hW D cy ad b RES.2 P0 [] H)) args s 240 960 (hA b)) (F0 m 12 ls []) := by
  intro n
  induction n with
  | zero =>
    intro x2 x3 cells slots hc hs h
    exact (gloop_0 h).elim
  | succ n ih =>
    intro x2 x3 cells slots hc hs h H locs ls hM hS hl
    obtain ⟨o, h0, hcc, hq⟩ := gloop_s h
    have h1 : b_L_areLoops_12 x1 x2 x3 ν μ = some o := h0
    exact wb_L_areLoops_12 (C0 := cells + 0) (S0 := slots + 0) (CM := CM) (SM := SM) h1 F E hY hPd  (by omega) (by omega) (by omega) (by omega) hcr hsr (fun t H locs ls ho hM hS hl => ih t.1 t.2 (by omega) (by omega) (hcc t ho) hM hS hl) (fun t H locs ls ho hM hS hl => kx t (hq _ ho).symm hM hS hl) hM hS hl
def j_L_areLoops_285 (x1 : Int32) (x3 : Int32) (x4 : Int32) (x5 : Int32) (x6 : Int32) (x8 : Int32) (x9 : Int32) (x10 : Int32) (x12 : Int32) (y0 : Int32) (y1 : Int32) (ν μ : gM) : Option ((Int32 × Int32 × Int32 × Int32 × Int32 × Int32 × gM) ⊕ ((Int32 × Int32 × Int32 × gM) ⊕ ((Bool) × gM))) :=
  Option.bind (f_L_length x12 ν μ) (fun q33 => Option.bind (f_X7_loopLine x3 (x10 + (1 : Int32)) μ) (fun q34 => some (.inl (x6, (y0 + y1), (x8 + q33), (x9 ||| ((1 : Int32) <<< (x12 &&& 31))), (x10 + (1 : Int32)), q34.1, q34.2))))
set_option maxHeartbeats 4000000 in
set_option maxRecDepth 100000 in
theorem wj_L_areLoops_285 {p : Program} {l : Launch} {e : Env} {s : State} {m : MethodId} {args : Array Value} {below : List Frame} {meth : Method} {c : Code} {D : va_G} {cy : Nat → ClassId} {ad : Nat → Nat} {b : Nat} {la : Nat → Nat → Nat} {ν : gM} {P P0 : va_W} {x1 : Int32} {x3 : Int32} {x4 : Int32} {x5 : Int32} {x6 : Int32} {x8 : Int32} {x9 : Int32} {x10 : Int32} {x12 : Int32} {y0 : Int32} {y1 : Int32} {μ : gM}  {o : (Int32 × Int32 × Int32 × Int32 × Int32 × Int32 × gM) ⊕ ((Int32 × Int32 × Int32 × gM) ⊕ ((Bool) × gM))} {RES : (Bool) × gM} {cells slots C0 S0 CM SM : Nat} (h : j_L_areLoops_285 x1 x3 x4 x5 x6 x8 x9 x10 x12 y0 y1 ν μ = some o) (F : gF p s m meth c cX8_areLoops RX8 15 (some .boolean)) (E : hE l D cy ad b s) (hY : lY cy ad la ν P) (hPd : ∀ (μ : gM) (H : Heap), hW D cy ad b μ P [] H → hW D cy ad b μ P0 [] H) (hc : cells + 1 ≤ C0) (hs : slots + 4 ≤ S0) (hcm : C0 ≤ CM) (hsm : S0 ≤ SM) (hcr : CM ≤ 240) (hsr : SM ≤ 960) (kc : ∀ (t : Int32 × Int32 × Int32 × Int32 × Int32 × Int32 × gM) {H : Heap} {locs : List Loc} {ls : Array Slot}, o = .inl t → hW D cy ad b t.2.2.2.2.2.2 P [] H → va_S (hA b) s.heap H locs → lv_has ls 15 [(0, .ref (la 0 0)), (1, .int x1), (3, .int x3), (4, .int x4), (5, .int x5), (6, .int t.1), (7, .int t.2.1), (8, .int t.2.2.1), (9, .int t.2.2.2.1), (10, .int t.2.2.2.2.1), (11, .int t.2.2.2.2.2.1)] → W p l e ({ frames := 7, cells := 240, slots := 960, locals := 163 } : Room) s m args below meth c H locs C0 S0 (MQ below (hQ b (fun rv H => rv = some (.int (b2i RES.1)) ∧ hW D cy ad b RES.2 P0 [] H)) args s 240 960 (hA b)) (F0 m 154 ls [])) (kx : ∀ (t : Int32 × Int32 × Int32 × gM) {H : Heap} {locs : List Loc} {ls : Array Slot}, o = .inr (.inl t) → hW D cy ad b t.2.2.2 P [] H → va_S (hA b) s.heap H locs → lv_has ls 15 [(0, .ref (la 0 0)), (1, .int x1), (3, .int x3), (4, .int x4), (5, .int x5), (6, .int t.1), (7, .int t.2.1), (8, .int t.2.2.1)] → W p l e ({ frames := 7, cells := 240, slots := 960, locals := 163 } : Room) s m args below meth c H locs CM SM (MQ below (hQ b (fun rv H => rv = some (.int (b2i RES.1)) ∧ hW D cy ad b RES.2 P0 [] H)) args s 240 960 (hA b)) (F0 m 326 ls [])) (kr : ∀ x : (Bool) × gM, o = .inr (.inr x) → x = RES) {H : Heap} {locs : List Loc} {ls : Array Slot} (hM : hW D cy ad b μ P [] H) (hS : va_S (hA b) s.heap H locs) (hl : lv_has ls 15 [(0, .ref (la 0 0)), (1, .int x1), (3, .int x3), (4, .int x4), (5, .int x5), (6, .int x6), (8, .int x8), (9, .int x9), (10, .int x10), (12, .int x12)]) : W p l e ({ frames := 7, cells := 240, slots := 960, locals := 163 } : Room) s m args below meth c H locs cells slots (MQ below (hQ b (fun rv H => rv = some (.int (b2i RES.1)) ∧ hW D cy ad b RES.2 P0 [] H)) args s 240 960 (hA b)) (F0 m 285 ls [.int y1, .int y0]) := by
  obtain ⟨hx, hb, hml, hown, hlocks, hr⟩ := id F
  unfold j_L_areLoops_285 at h
  refine lv_iadd hx hb dX8_areLoops_285 ?_
  refine lv_istore (lv' := [(7, .int (y0 + y1)), (0, .ref (la 0 0)), (1, .int x1), (3, .int x3), (4, .int x4), (5, .int x5), (6, .int x6), (8, .int x8), (9, .int x9), (10, .int x10), (12, .int x12)]) hx hb dX8_areLoops_286 hl (by decide) rfl (fun ls hl => ?_)
  refine lv_iload hx hb dX8_areLoops_288 (lv_at hl 7 rfl) ?_
  refine lv_aload_n hx hb dX8_areLoops_290 rfl (lv_at hl 1 rfl) ?_
  refine lv_iload hx hb dX8_areLoops_291 (lv_at hl 10 rfl) ?_
  obtain ⟨q33, hq33, h⟩ := gbind_e h
  refine h_callV (As := [.int x12]) (rest := [.int x8]) hx hb (hml.trans hl.1.symm) hown E hM hS xy_X8_length kw_1207 (c_L_length hY hq33) (hp_m (hY.c1 0 rfl)) gC_X8.1 rfl rfl (Nat.le_of_ble_eq_true rfl) ⟨(Nat.le_of_ble_eq_true rfl), (Nat.le_of_ble_eq_true rfl)⟩ ⟨(show _ ≤ 240 by omega), (show _ ≤ 960 by omega)⟩ dX8_areLoops_293 (fun rv H locs hZ hS => ?_)
  obtain ⟨rfl, hM⟩ := hZ
  refine lv_iadd hx hb dX8_areLoops_296 ?_
  refine lv_istore (lv' := [(8, .int (x8 + q33)), (7, .int (y0 + y1)), (0, .ref (la 0 0)), (1, .int x1), (3, .int x3), (4, .int x4), (5, .int x5), (6, .int x6), (9, .int x9), (10, .int x10), (12, .int x12)]) hx hb dX8_areLoops_297 hl (by decide) rfl (fun ls hl => ?_)
  refine lv_iload hx hb dX8_areLoops_299 (lv_at hl 8 rfl) ?_
  refine lv_iconst (v := (1 : Int32)) hx hb dX8_areLoops_301 (by decide) ?_
  refine lv_iload hx hb dX8_areLoops_302 (lv_at hl 10 rfl) ?_
  refine lv_ishl hx hb dX8_areLoops_304 ?_
  refine lv_ior hx hb dX8_areLoops_305 ?_
  refine lv_istore (lv' := [(9, .int (x9 ||| ((1 : Int32) <<< (x12 &&& 31)))), (8, .int (x8 + q33)), (7, .int (y0 + y1)), (0, .ref (la 0 0)), (1, .int x1), (3, .int x3), (4, .int x4), (5, .int x5), (6, .int x6), (10, .int x10), (12, .int x12)]) hx hb dX8_areLoops_306 hl (by decide) rfl (fun ls hl => ?_)
  refine lv_iinc (v := (x10 + (1 : Int32))) (lv' := [(10, .int (x10 + (1 : Int32))), (9, .int (x9 ||| ((1 : Int32) <<< (x12 &&& 31)))), (8, .int (x8 + q33)), (7, .int (y0 + y1)), (0, .ref (la 0 0)), (1, .int x1), (3, .int x3), (4, .int x4), (5, .int x5), (6, .int x6), (12, .int x12)]) hx hb dX8_areLoops_308 hl (k := 9) rfl rfl (by decide) rfl (fun ls hl => ?_)
  refine lv_aload_n hx hb dX8_areLoops_311 rfl (lv_at hl 4 rfl) ?_
  refine h_get hx hb hown E hM (hp_m (hY.c1 0 rfl)) gC_X8 0 (by decide) (v := .ref (ad 0)) rfl kw_1023 dX8_areLoops_312 ?_
  refine lv_iload_n hx hb dX8_areLoops_315 rfl (lv_at hl 6 rfl) ?_
  refine lv_iload hx hb dX8_areLoops_316 (lv_at hl 0 rfl) ?_
  obtain ⟨q34, hq34, h⟩ := gbind_e h
  refine h_callC (As := [.int x3, .int (x10 + (1 : Int32))]) (rest := []) hx hb (hml.trans hl.1.symm) hown E hM hS hy_X7_loopLine kw_1346 (c_X7_loopLine hq34) hk_0 dd_0 rfl rfl rfl (Nat.le_of_ble_eq_true rfl) ⟨(Nat.le_of_ble_eq_true rfl), (Nat.le_of_ble_eq_true rfl)⟩ ⟨(show _ ≤ 240 by omega), (show _ ≤ 960 by omega)⟩ dX8_areLoops_318 (fun H locs hM hS => ?_)
  refine lv_istore (lv' := [(11, .int q34.1), (10, .int (x10 + (1 : Int32))), (9, .int (x9 ||| ((1 : Int32) <<< (x12 &&& 31)))), (8, .int (x8 + q33)), (7, .int (y0 + y1)), (0, .ref (la 0 0)), (1, .int x1), (3, .int x3), (4, .int x4), (5, .int x5), (6, .int x6), (12, .int x12)]) hx hb dX8_areLoops_321 hl (by decide) rfl (fun ls hl => ?_)
  refine lv_goto (tgt := 154) hx hb dX8_areLoops_323 (by decide) ?_
  refine W.widen (k := C0) (n := S0) (by omega) (by omega) ?_
  exact kc _ (Option.some.inj h).symm hM hS (lv_sub hl [5, 6, 7, 8, 9, 10, 4, 3, 2, 1, 0] rfl)
def j_L_areLoops_259 (x1 : Int32) (x3 : Int32) (x4 : Int32) (x5 : Int32) (x7 : Int32) (x8 : Int32) (x9 : Int32) (x10 : Int32) (x12 : Int32) (x13 : Int32) (k0 : Nat) (y1 : Int32) (ν μ : gM) : Option ((Int32 × Int32 × Int32 × Int32 × Int32 × Int32 × gM) ⊕ ((Int32 × Int32 × Int32 × gM) ⊕ ((Bool) × gM))) :=
  gchk (gIn y1 2) (if (x13 = 0) then Option.bind (f_L_rise x12 ν μ) (fun q32 => j_L_areLoops_285 x1 x3 x4 x5 (gi ν (20 + k0) y1.toNatClampNeg) x8 x9 x10 x12 x7 q32 ν μ) else Option.bind (f_L_rise x12 ν μ) (fun q35 => j_L_areLoops_285 x1 x3 x4 x5 (gi ν (20 + k0) y1.toNatClampNeg) x8 x9 x10 x12 x7 (-q35) ν μ))
set_option maxHeartbeats 4000000 in
set_option maxRecDepth 100000 in
theorem wj_L_areLoops_259 {p : Program} {l : Launch} {e : Env} {s : State} {m : MethodId} {args : Array Value} {below : List Frame} {meth : Method} {c : Code} {D : va_G} {cy : Nat → ClassId} {ad : Nat → Nat} {b : Nat} {la : Nat → Nat → Nat} {ν : gM} {P P0 : va_W} {x1 : Int32} {x3 : Int32} {x4 : Int32} {x5 : Int32} {x7 : Int32} {x8 : Int32} {x9 : Int32} {x10 : Int32} {x12 : Int32} {x13 : Int32} {k0 : Nat} {y1 : Int32} {μ : gM}  {o : (Int32 × Int32 × Int32 × Int32 × Int32 × Int32 × gM) ⊕ ((Int32 × Int32 × Int32 × gM) ⊕ ((Bool) × gM))} {RES : (Bool) × gM} {cells slots C0 S0 CM SM : Nat} (h : j_L_areLoops_259 x1 x3 x4 x5 x7 x8 x9 x10 x12 x13 k0 y1 ν μ = some o) (F : gF p s m meth c cX8_areLoops RX8 15 (some .boolean)) (E : hE l D cy ad b s) (hY : lY cy ad la ν P) (hPd : ∀ (μ : gM) (H : Heap), hW D cy ad b μ P [] H → hW D cy ad b μ P0 [] H) (g0 : k0 < lLn ν) (hc : cells + 2 ≤ C0) (hs : slots + 8 ≤ S0) (hcm : C0 ≤ CM) (hsm : S0 ≤ SM) (hcr : CM ≤ 240) (hsr : SM ≤ 960) (kc : ∀ (t : Int32 × Int32 × Int32 × Int32 × Int32 × Int32 × gM) {H : Heap} {locs : List Loc} {ls : Array Slot}, o = .inl t → hW D cy ad b t.2.2.2.2.2.2 P [] H → va_S (hA b) s.heap H locs → lv_has ls 15 [(0, .ref (la 0 0)), (1, .int x1), (3, .int x3), (4, .int x4), (5, .int x5), (6, .int t.1), (7, .int t.2.1), (8, .int t.2.2.1), (9, .int t.2.2.2.1), (10, .int t.2.2.2.2.1), (11, .int t.2.2.2.2.2.1)] → W p l e ({ frames := 7, cells := 240, slots := 960, locals := 163 } : Room) s m args below meth c H locs C0 S0 (MQ below (hQ b (fun rv H => rv = some (.int (b2i RES.1)) ∧ hW D cy ad b RES.2 P0 [] H)) args s 240 960 (hA b)) (F0 m 154 ls [])) (kx : ∀ (t : Int32 × Int32 × Int32 × gM) {H : Heap} {locs : List Loc} {ls : Array Slot}, o = .inr (.inl t) → hW D cy ad b t.2.2.2 P [] H → va_S (hA b) s.heap H locs → lv_has ls 15 [(0, .ref (la 0 0)), (1, .int x1), (3, .int x3), (4, .int x4), (5, .int x5), (6, .int t.1), (7, .int t.2.1), (8, .int t.2.2.1)] → W p l e ({ frames := 7, cells := 240, slots := 960, locals := 163 } : Room) s m args below meth c H locs CM SM (MQ below (hQ b (fun rv H => rv = some (.int (b2i RES.1)) ∧ hW D cy ad b RES.2 P0 [] H)) args s 240 960 (hA b)) (F0 m 326 ls [])) (kr : ∀ x : (Bool) × gM, o = .inr (.inr x) → x = RES) {H : Heap} {locs : List Loc} {ls : Array Slot} (hM : hW D cy ad b μ P [] H) (hS : va_S (hA b) s.heap H locs) (hl : lv_has ls 15 [(0, .ref (la 0 0)), (1, .int x1), (3, .int x3), (4, .int x4), (5, .int x5), (7, .int x7), (8, .int x8), (9, .int x9), (10, .int x10), (12, .int x12), (13, .int x13)]) : W p l e ({ frames := 7, cells := 240, slots := 960, locals := 163 } : Room) s m args below meth c H locs cells slots (MQ below (hQ b (fun rv H => rv = some (.int (b2i RES.1)) ∧ hW D cy ad b RES.2 P0 [] H)) args s 240 960 (hA b)) (F0 m 259 ls [.int y1, .ref (la 20 k0)]) := by
  obtain ⟨hx, hb, hml, hown, hlocks, hr⟩ := id F
  unfold j_L_areLoops_259 at h
  obtain ⟨c30, h⟩ := gchk_e h
  refine l_iald hx hb E hM (hp_m (hY.c2 g0 0 rfl)) c30 (v := (gi ν (20 + k0) y1.toNatClampNeg)) rfl dX8_areLoops_259 ?_
  refine lv_istore (lv' := [(6, .int (gi ν (20 + k0) y1.toNatClampNeg)), (0, .ref (la 0 0)), (1, .int x1), (3, .int x3), (4, .int x4), (5, .int x5), (7, .int x7), (8, .int x8), (9, .int x9), (10, .int x10), (12, .int x12), (13, .int x13)]) hx hb dX8_areLoops_260 hl (by decide) rfl (fun ls hl => ?_)
  refine lv_iload hx hb dX8_areLoops_262 (lv_at hl 6 rfl) ?_
  refine lv_iload hx hb dX8_areLoops_264 (lv_at hl 11 rfl) ?_
  refine lv_if_eq (tgt := 279) hx hb dX8_areLoops_266 (by decide) (fun c31 => ?_) (fun c31 => ?_)
  · replace h := gif_t c31 h
    refine lv_aload_n hx hb dX8_areLoops_279 rfl (lv_at hl 1 rfl) ?_
    refine lv_iload hx hb dX8_areLoops_280 (lv_at hl 10 rfl) ?_
    obtain ⟨q32, hq32, h⟩ := gbind_e h
    refine h_callV (As := [.int x12]) (rest := [.int x7]) hx hb (hml.trans hl.1.symm) hown E hM hS xy_X8_rise kw_1146 (c_L_rise hY hq32) (hp_m (hY.c1 0 rfl)) gC_X8.1 rfl rfl (Nat.le_of_ble_eq_true rfl) ⟨(Nat.le_of_ble_eq_true rfl), (Nat.le_of_ble_eq_true rfl)⟩ ⟨(show _ ≤ 240 by omega), (show _ ≤ 960 by omega)⟩ dX8_areLoops_282 (fun rv H locs hZ hS => ?_)
    obtain ⟨rfl, hM⟩ := hZ
    exact wj_L_areLoops_285 h F E hY hPd  (by omega) (by omega) hcm hsm hcr hsr kc kx kr hM hS (lv_sub hl [1, 2, 3, 4, 5, 0, 7, 8, 9, 10] rfl)
  · replace h := gif_f c31 h
    refine lv_aload_n hx hb dX8_areLoops_269 rfl (lv_at hl 1 rfl) ?_
    refine lv_iload hx hb dX8_areLoops_270 (lv_at hl 10 rfl) ?_
    obtain ⟨q35, hq35, h⟩ := gbind_e h
    refine h_callV (As := [.int x12]) (rest := [.int x7]) hx hb (hml.trans hl.1.symm) hown E hM hS xy_X8_rise kw_1146 (c_L_rise hY hq35) (hp_m (hY.c1 0 rfl)) gC_X8.1 rfl rfl (Nat.le_of_ble_eq_true rfl) ⟨(Nat.le_of_ble_eq_true rfl), (Nat.le_of_ble_eq_true rfl)⟩ ⟨(show _ ≤ 240 by omega), (show _ ≤ 960 by omega)⟩ dX8_areLoops_272 (fun rv H locs hZ hS => ?_)
    obtain ⟨rfl, hM⟩ := hZ
    refine lv_ineg hx hb dX8_areLoops_275 ?_
    refine lv_goto (tgt := 285) hx hb dX8_areLoops_276 (by decide) ?_
    exact wj_L_areLoops_285 h F E hY hPd  (by omega) (by omega) hcm hsm hcr hsr kc kx kr hM hS (lv_sub hl [1, 2, 3, 4, 5, 0, 7, 8, 9, 10] rfl)
def j_L_areLoops_234 (x1 : Int32) (x3 : Int32) (x4 : Int32) (x5 : Int32) (x6 : Int32) (x7 : Int32) (x8 : Int32) (x9 : Int32) (x10 : Int32) (x12 : Int32) (x13 : Int32) (k0 : Nat) (y1 : Int32) (ν μ : gM) : Option ((Int32 × Int32 × Int32 × Int32 × Int32 × Int32 × gM) ⊕ ((Int32 × Int32 × Int32 × gM) ⊕ ((Bool) × gM))) :=
  gchk (gIn y1 2) (if ((gi ν (20 + k0) y1.toNatClampNeg) = x6) then gchk (gIn x12 (lLn ν)) (if (x13 = 0) then j_L_areLoops_259 x1 x3 x4 x5 x7 x8 x9 x10 x12 x13 x12.toNatClampNeg (1 : Int32) ν μ else j_L_areLoops_259 x1 x3 x4 x5 x7 x8 x9 x10 x12 x13 x12.toNatClampNeg (0 : Int32) ν μ) else some (.inr (.inr (false, μ))))
set_option maxHeartbeats 4000000 in
set_option maxRecDepth 100000 in
theorem wj_L_areLoops_234 {p : Program} {l : Launch} {e : Env} {s : State} {m : MethodId} {args : Array Value} {below : List Frame} {meth : Method} {c : Code} {D : va_G} {cy : Nat → ClassId} {ad : Nat → Nat} {b : Nat} {la : Nat → Nat → Nat} {ν : gM} {P P0 : va_W} {x1 : Int32} {x3 : Int32} {x4 : Int32} {x5 : Int32} {x6 : Int32} {x7 : Int32} {x8 : Int32} {x9 : Int32} {x10 : Int32} {x12 : Int32} {x13 : Int32} {k0 : Nat} {y1 : Int32} {μ : gM}  {o : (Int32 × Int32 × Int32 × Int32 × Int32 × Int32 × gM) ⊕ ((Int32 × Int32 × Int32 × gM) ⊕ ((Bool) × gM))} {RES : (Bool) × gM} {cells slots C0 S0 CM SM : Nat} (h : j_L_areLoops_234 x1 x3 x4 x5 x6 x7 x8 x9 x10 x12 x13 k0 y1 ν μ = some o) (F : gF p s m meth c cX8_areLoops RX8 15 (some .boolean)) (E : hE l D cy ad b s) (hY : lY cy ad la ν P) (hPd : ∀ (μ : gM) (H : Heap), hW D cy ad b μ P [] H → hW D cy ad b μ P0 [] H) (g0 : k0 < lLn ν) (hc : cells + 2 ≤ C0) (hs : slots + 8 ≤ S0) (hcm : C0 ≤ CM) (hsm : S0 ≤ SM) (hcr : CM ≤ 240) (hsr : SM ≤ 960) (kc : ∀ (t : Int32 × Int32 × Int32 × Int32 × Int32 × Int32 × gM) {H : Heap} {locs : List Loc} {ls : Array Slot}, o = .inl t → hW D cy ad b t.2.2.2.2.2.2 P [] H → va_S (hA b) s.heap H locs → lv_has ls 15 [(0, .ref (la 0 0)), (1, .int x1), (3, .int x3), (4, .int x4), (5, .int x5), (6, .int t.1), (7, .int t.2.1), (8, .int t.2.2.1), (9, .int t.2.2.2.1), (10, .int t.2.2.2.2.1), (11, .int t.2.2.2.2.2.1)] → W p l e ({ frames := 7, cells := 240, slots := 960, locals := 163 } : Room) s m args below meth c H locs C0 S0 (MQ below (hQ b (fun rv H => rv = some (.int (b2i RES.1)) ∧ hW D cy ad b RES.2 P0 [] H)) args s 240 960 (hA b)) (F0 m 154 ls [])) (kx : ∀ (t : Int32 × Int32 × Int32 × gM) {H : Heap} {locs : List Loc} {ls : Array Slot}, o = .inr (.inl t) → hW D cy ad b t.2.2.2 P [] H → va_S (hA b) s.heap H locs → lv_has ls 15 [(0, .ref (la 0 0)), (1, .int x1), (3, .int x3), (4, .int x4), (5, .int x5), (6, .int t.1), (7, .int t.2.1), (8, .int t.2.2.1)] → W p l e ({ frames := 7, cells := 240, slots := 960, locals := 163 } : Room) s m args below meth c H locs CM SM (MQ below (hQ b (fun rv H => rv = some (.int (b2i RES.1)) ∧ hW D cy ad b RES.2 P0 [] H)) args s 240 960 (hA b)) (F0 m 326 ls [])) (kr : ∀ x : (Bool) × gM, o = .inr (.inr x) → x = RES) {H : Heap} {locs : List Loc} {ls : Array Slot} (hM : hW D cy ad b μ P [] H) (hS : va_S (hA b) s.heap H locs) (hl : lv_has ls 15 [(0, .ref (la 0 0)), (1, .int x1), (3, .int x3), (4, .int x4), (5, .int x5), (6, .int x6), (7, .int x7), (8, .int x8), (9, .int x9), (10, .int x10), (12, .int x12), (13, .int x13)]) : W p l e ({ frames := 7, cells := 240, slots := 960, locals := 163 } : Room) s m args below meth c H locs cells slots (MQ below (hQ b (fun rv H => rv = some (.int (b2i RES.1)) ∧ hW D cy ad b RES.2 P0 [] H)) args s 240 960 (hA b)) (F0 m 234 ls [.int y1, .ref (la 20 k0)]) := by
  obtain ⟨hx, hb, hml, hown, hlocks, hr⟩ := id F
  unfold j_L_areLoops_234 at h
  obtain ⟨c26, h⟩ := gchk_e h
  refine l_iald hx hb E hM (hp_m (hY.c2 g0 0 rfl)) c26 (v := (gi ν (20 + k0) y1.toNatClampNeg)) rfl dX8_areLoops_234 ?_
  refine lv_iload hx hb dX8_areLoops_235 (lv_at hl 5 rfl) ?_
  refine lv_icmp_eq (tgt := 242) hx hb dX8_areLoops_237 (by decide) (fun c27 => ?_) (fun c27 => ?_)
  · replace h := gif_t c27 h
    refine lv_aload_n hx hb dX8_areLoops_242 rfl (lv_at hl 0 rfl) ?_
    refine h_get hx hb hown E hM (hp_m (hY.c1 0 rfl)) gC_X8 5 (by decide) (v := .ref (la 3 0)) rfl kw_1029 dX8_areLoops_243 ?_
    refine lv_iload hx hb dX8_areLoops_246 (lv_at hl 10 rfl) ?_
    obtain ⟨c28, h⟩ := gchk_e h
    refine h_rald hx hb E hM (hp_m (hY.c1 3 rfl)) c28 (v := .ref (la 20 x12.toNatClampNeg)) (x_lrf c28) dX8_areLoops_248 ?_
    refine lv_iload hx hb dX8_areLoops_249 (lv_at hl 11 rfl) ?_
    refine lv_if_eq (tgt := 258) hx hb dX8_areLoops_251 (by decide) (fun c29 => ?_) (fun c29 => ?_)
    · replace h := gif_t c29 h
      refine lv_iconst (v := (1 : Int32)) hx hb dX8_areLoops_258 (by decide) ?_
      exact wj_L_areLoops_259 h F E hY hPd  c28.2 (by omega) (by omega) hcm hsm hcr hsr kc kx kr hM hS (lv_sub hl [0, 1, 2, 3, 4, 6, 7, 8, 9, 10, 11] rfl)
    · replace h := gif_f c29 h
      refine lv_iconst (v := (0 : Int32)) hx hb dX8_areLoops_254 (by decide) ?_
      refine lv_goto (tgt := 259) hx hb dX8_areLoops_255 (by decide) ?_
      exact wj_L_areLoops_259 h F E hY hPd  c28.2 (by omega) (by omega) hcm hsm hcr hsr kc kx kr hM hS (lv_sub hl [0, 1, 2, 3, 4, 6, 7, 8, 9, 10, 11] rfl)
  · replace h := gif_f c27 h
    refine lv_iconst (v := (0 : Int32)) hx hb dX8_areLoops_240 (by decide) ?_
    obtain rfl := kr _ (Option.some.inj h).symm
    exact h_zret (v := b2i false) hx hb hr hlocks (by omega) (by omega) (b2i_nar false) ⟨rfl, hPd _ _ (hW.drop hM)⟩ hS dX8_areLoops_241
def j_L_areLoops_217 (x1 : Int32) (x3 : Int32) (x4 : Int32) (x5 : Int32) (x6 : Int32) (x7 : Int32) (x8 : Int32) (x9 : Int32) (x10 : Int32) (x12 : Int32) (x13 : Int32) (ν μ : gM) : Option ((Int32 × Int32 × Int32 × Int32 × Int32 × Int32 × gM) ⊕ ((Int32 × Int32 × Int32 × gM) ⊕ ((Bool) × gM))) :=
  gchk (gIn x12 (lLn ν)) (if (x13 = 0) then j_L_areLoops_234 x1 x3 x4 x5 x6 x7 x8 x9 x10 x12 x13 x12.toNatClampNeg (0 : Int32) ν μ else j_L_areLoops_234 x1 x3 x4 x5 x6 x7 x8 x9 x10 x12 x13 x12.toNatClampNeg (1 : Int32) ν μ)
set_option maxHeartbeats 4000000 in
set_option maxRecDepth 100000 in
theorem wj_L_areLoops_217 {p : Program} {l : Launch} {e : Env} {s : State} {m : MethodId} {args : Array Value} {below : List Frame} {meth : Method} {c : Code} {D : va_G} {cy : Nat → ClassId} {ad : Nat → Nat} {b : Nat} {la : Nat → Nat → Nat} {ν : gM} {P P0 : va_W} {x1 : Int32} {x3 : Int32} {x4 : Int32} {x5 : Int32} {x6 : Int32} {x7 : Int32} {x8 : Int32} {x9 : Int32} {x10 : Int32} {x12 : Int32} {x13 : Int32} {μ : gM}  {o : (Int32 × Int32 × Int32 × Int32 × Int32 × Int32 × gM) ⊕ ((Int32 × Int32 × Int32 × gM) ⊕ ((Bool) × gM))} {RES : (Bool) × gM} {cells slots C0 S0 CM SM : Nat} (h : j_L_areLoops_217 x1 x3 x4 x5 x6 x7 x8 x9 x10 x12 x13 ν μ = some o) (F : gF p s m meth c cX8_areLoops RX8 15 (some .boolean)) (E : hE l D cy ad b s) (hY : lY cy ad la ν P) (hPd : ∀ (μ : gM) (H : Heap), hW D cy ad b μ P [] H → hW D cy ad b μ P0 [] H) (hc : cells + 2 ≤ C0) (hs : slots + 8 ≤ S0) (hcm : C0 ≤ CM) (hsm : S0 ≤ SM) (hcr : CM ≤ 240) (hsr : SM ≤ 960) (kc : ∀ (t : Int32 × Int32 × Int32 × Int32 × Int32 × Int32 × gM) {H : Heap} {locs : List Loc} {ls : Array Slot}, o = .inl t → hW D cy ad b t.2.2.2.2.2.2 P [] H → va_S (hA b) s.heap H locs → lv_has ls 15 [(0, .ref (la 0 0)), (1, .int x1), (3, .int x3), (4, .int x4), (5, .int x5), (6, .int t.1), (7, .int t.2.1), (8, .int t.2.2.1), (9, .int t.2.2.2.1), (10, .int t.2.2.2.2.1), (11, .int t.2.2.2.2.2.1)] → W p l e ({ frames := 7, cells := 240, slots := 960, locals := 163 } : Room) s m args below meth c H locs C0 S0 (MQ below (hQ b (fun rv H => rv = some (.int (b2i RES.1)) ∧ hW D cy ad b RES.2 P0 [] H)) args s 240 960 (hA b)) (F0 m 154 ls [])) (kx : ∀ (t : Int32 × Int32 × Int32 × gM) {H : Heap} {locs : List Loc} {ls : Array Slot}, o = .inr (.inl t) → hW D cy ad b t.2.2.2 P [] H → va_S (hA b) s.heap H locs → lv_has ls 15 [(0, .ref (la 0 0)), (1, .int x1), (3, .int x3), (4, .int x4), (5, .int x5), (6, .int t.1), (7, .int t.2.1), (8, .int t.2.2.1)] → W p l e ({ frames := 7, cells := 240, slots := 960, locals := 163 } : Room) s m args below meth c H locs CM SM (MQ below (hQ b (fun rv H => rv = some (.int (b2i RES.1)) ∧ hW D cy ad b RES.2 P0 [] H)) args s 240 960 (hA b)) (F0 m 326 ls [])) (kr : ∀ x : (Bool) × gM, o = .inr (.inr x) → x = RES) {H : Heap} {locs : List Loc} {ls : Array Slot} (hM : hW D cy ad b μ P [] H) (hS : va_S (hA b) s.heap H locs) (hl : lv_has ls 15 [(0, .ref (la 0 0)), (1, .int x1), (3, .int x3), (4, .int x4), (5, .int x5), (6, .int x6), (7, .int x7), (8, .int x8), (9, .int x9), (10, .int x10), (12, .int x12), (13, .int x13)]) : W p l e ({ frames := 7, cells := 240, slots := 960, locals := 163 } : Room) s m args below meth c H locs cells slots (MQ below (hQ b (fun rv H => rv = some (.int (b2i RES.1)) ∧ hW D cy ad b RES.2 P0 [] H)) args s 240 960 (hA b)) (F0 m 217 ls []) := by
  obtain ⟨hx, hb, hml, hown, hlocks, hr⟩ := id F
  unfold j_L_areLoops_217 at h
  refine lv_aload_n hx hb dX8_areLoops_217 rfl (lv_at hl 0 rfl) ?_
  refine h_get hx hb hown E hM (hp_m (hY.c1 0 rfl)) gC_X8 5 (by decide) (v := .ref (la 3 0)) rfl kw_1029 dX8_areLoops_218 ?_
  refine lv_iload hx hb dX8_areLoops_221 (lv_at hl 10 rfl) ?_
  obtain ⟨c24, h⟩ := gchk_e h
  refine h_rald hx hb E hM (hp_m (hY.c1 3 rfl)) c24 (v := .ref (la 20 x12.toNatClampNeg)) (x_lrf c24) dX8_areLoops_223 ?_
  refine lv_iload hx hb dX8_areLoops_224 (lv_at hl 11 rfl) ?_
  refine lv_if_eq (tgt := 233) hx hb dX8_areLoops_226 (by decide) (fun c25 => ?_) (fun c25 => ?_)
  · replace h := gif_t c25 h
    refine lv_iconst (v := (0 : Int32)) hx hb dX8_areLoops_233 (by decide) ?_
    exact wj_L_areLoops_234 h F E hY hPd  c24.2 (by omega) (by omega) hcm hsm hcr hsr kc kx kr hM hS hl
  · replace h := gif_f c25 h
    refine lv_iconst (v := (1 : Int32)) hx hb dX8_areLoops_229 (by decide) ?_
    refine lv_goto (tgt := 234) hx hb dX8_areLoops_230 (by decide) ?_
    exact wj_L_areLoops_234 h F E hY hPd  c24.2 (by omega) (by omega) hcm hsm hcr hsr kc kx kr hM hS hl
def j_L_areLoops_178 (x1 : Int32) (x3 : Int32) (x4 : Int32) (x5 : Int32) (x6 : Int32) (x7 : Int32) (x8 : Int32) (x9 : Int32) (x10 : Int32) (x11 : Int32) (x12 : Int32) (y0 : Int32) (ν μ : gM) : Option ((Int32 × Int32 × Int32 × Int32 × Int32 × Int32 × gM) ⊕ ((Int32 × Int32 × Int32 × gM) ⊕ ((Bool) × gM))) :=
  if (x10 = 0) then if (x11 = x5) then j_L_areLoops_217 x1 x3 x4 x5 x6 x7 x8 x9 x10 x12 y0 ν μ else some (.inr (.inr (false, μ))) else if (((x1 >>> (x12 &&& 31)) &&& (1 : Int32)) = 0) then some (.inr (.inr (false, μ))) else if (((x9 >>> (x12 &&& 31)) &&& (1 : Int32)) = (1 : Int32)) then some (.inr (.inr (false, μ))) else j_L_areLoops_217 x1 x3 x4 x5 x6 x7 x8 x9 x10 x12 y0 ν μ
set_option maxHeartbeats 4000000 in
set_option maxRecDepth 100000 in
theorem wj_L_areLoops_178 {p : Program} {l : Launch} {e : Env} {s : State} {m : MethodId} {args : Array Value} {below : List Frame} {meth : Method} {c : Code} {D : va_G} {cy : Nat → ClassId} {ad : Nat → Nat} {b : Nat} {la : Nat → Nat → Nat} {ν : gM} {P P0 : va_W} {x1 : Int32} {x3 : Int32} {x4 : Int32} {x5 : Int32} {x6 : Int32} {x7 : Int32} {x8 : Int32} {x9 : Int32} {x10 : Int32} {x11 : Int32} {x12 : Int32} {y0 : Int32} {μ : gM}  {o : (Int32 × Int32 × Int32 × Int32 × Int32 × Int32 × gM) ⊕ ((Int32 × Int32 × Int32 × gM) ⊕ ((Bool) × gM))} {RES : (Bool) × gM} {cells slots C0 S0 CM SM : Nat} (h : j_L_areLoops_178 x1 x3 x4 x5 x6 x7 x8 x9 x10 x11 x12 y0 ν μ = some o) (F : gF p s m meth c cX8_areLoops RX8 15 (some .boolean)) (E : hE l D cy ad b s) (hY : lY cy ad la ν P) (hPd : ∀ (μ : gM) (H : Heap), hW D cy ad b μ P [] H → hW D cy ad b μ P0 [] H) (hc : cells + 2 ≤ C0) (hs : slots + 8 ≤ S0) (hcm : C0 ≤ CM) (hsm : S0 ≤ SM) (hcr : CM ≤ 240) (hsr : SM ≤ 960) (kc : ∀ (t : Int32 × Int32 × Int32 × Int32 × Int32 × Int32 × gM) {H : Heap} {locs : List Loc} {ls : Array Slot}, o = .inl t → hW D cy ad b t.2.2.2.2.2.2 P [] H → va_S (hA b) s.heap H locs → lv_has ls 15 [(0, .ref (la 0 0)), (1, .int x1), (3, .int x3), (4, .int x4), (5, .int x5), (6, .int t.1), (7, .int t.2.1), (8, .int t.2.2.1), (9, .int t.2.2.2.1), (10, .int t.2.2.2.2.1), (11, .int t.2.2.2.2.2.1)] → W p l e ({ frames := 7, cells := 240, slots := 960, locals := 163 } : Room) s m args below meth c H locs C0 S0 (MQ below (hQ b (fun rv H => rv = some (.int (b2i RES.1)) ∧ hW D cy ad b RES.2 P0 [] H)) args s 240 960 (hA b)) (F0 m 154 ls [])) (kx : ∀ (t : Int32 × Int32 × Int32 × gM) {H : Heap} {locs : List Loc} {ls : Array Slot}, o = .inr (.inl t) → hW D cy ad b t.2.2.2 P [] H → va_S (hA b) s.heap H locs → lv_has ls 15 [(0, .ref (la 0 0)), (1, .int x1), (3, .int x3), (4, .int x4), (5, .int x5), (6, .int t.1), (7, .int t.2.1), (8, .int t.2.2.1)] → W p l e ({ frames := 7, cells := 240, slots := 960, locals := 163 } : Room) s m args below meth c H locs CM SM (MQ below (hQ b (fun rv H => rv = some (.int (b2i RES.1)) ∧ hW D cy ad b RES.2 P0 [] H)) args s 240 960 (hA b)) (F0 m 326 ls [])) (kr : ∀ x : (Bool) × gM, o = .inr (.inr x) → x = RES) {H : Heap} {locs : List Loc} {ls : Array Slot} (hM : hW D cy ad b μ P [] H) (hS : va_S (hA b) s.heap H locs) (hl : lv_has ls 15 [(0, .ref (la 0 0)), (1, .int x1), (3, .int x3), (4, .int x4), (5, .int x5), (6, .int x6), (7, .int x7), (8, .int x8), (9, .int x9), (10, .int x10), (11, .int x11), (12, .int x12)]) : W p l e ({ frames := 7, cells := 240, slots := 960, locals := 163 } : Room) s m args below meth c H locs cells slots (MQ below (hQ b (fun rv H => rv = some (.int (b2i RES.1)) ∧ hW D cy ad b RES.2 P0 [] H)) args s 240 960 (hA b)) (F0 m 178 ls [.int y0]) := by
  obtain ⟨hx, hb, hml, hown, hlocks, hr⟩ := id F
  unfold j_L_areLoops_178 at h
  refine lv_istore (lv' := [(13, .int y0), (0, .ref (la 0 0)), (1, .int x1), (3, .int x3), (4, .int x4), (5, .int x5), (6, .int x6), (7, .int x7), (8, .int x8), (9, .int x9), (10, .int x10), (11, .int x11), (12, .int x12)]) hx hb dX8_areLoops_178 hl (by decide) rfl (fun ls hl => ?_)
  refine lv_iload hx hb dX8_areLoops_180 (lv_at hl 10 rfl) ?_
  refine lv_if_ne (tgt := 195) hx hb dX8_areLoops_182 (by decide) (fun c21 => ?_) (fun c21 => ?_)
  · replace h := gif_f c21 h
    refine lv_iload_n hx hb dX8_areLoops_195 rfl (lv_at hl 2 rfl) ?_
    refine lv_iload hx hb dX8_areLoops_196 (lv_at hl 12 rfl) ?_
    refine lv_ishr hx hb dX8_areLoops_198 ?_
    refine lv_iconst (v := (1 : Int32)) hx hb dX8_areLoops_199 (by decide) ?_
    refine lv_iand hx hb dX8_areLoops_200 ?_
    refine lv_if_eq (tgt := 215) hx hb dX8_areLoops_201 (by decide) (fun c22 => ?_) (fun c22 => ?_)
    · replace h := gif_t c22 h
      refine lv_iconst (v := (0 : Int32)) hx hb dX8_areLoops_215 (by decide) ?_
      obtain rfl := kr _ (Option.some.inj h).symm
      exact h_zret (v := b2i false) hx hb hr hlocks (by omega) (by omega) (b2i_nar false) ⟨rfl, hPd _ _ (hW.drop hM)⟩ hS dX8_areLoops_216
    · replace h := gif_f c22 h
      refine lv_iload hx hb dX8_areLoops_204 (lv_at hl 9 rfl) ?_
      refine lv_iload hx hb dX8_areLoops_206 (lv_at hl 12 rfl) ?_
      refine lv_ishr hx hb dX8_areLoops_208 ?_
      refine lv_iconst (v := (1 : Int32)) hx hb dX8_areLoops_209 (by decide) ?_
      refine lv_iand hx hb dX8_areLoops_210 ?_
      refine lv_iconst (v := (1 : Int32)) hx hb dX8_areLoops_211 (by decide) ?_
      refine lv_icmp_ne (tgt := 217) hx hb dX8_areLoops_212 (by decide) (fun c23 => ?_) (fun c23 => ?_)
      · replace h := gif_f c23 h
        exact wj_L_areLoops_217 h F E hY hPd  (by omega) (by omega) hcm hsm hcr hsr kc kx kr hM hS (lv_sub hl [1, 2, 3, 4, 5, 6, 7, 8, 9, 10, 12, 0] rfl)
      · replace h := gif_t c23 h
        refine lv_iconst (v := (0 : Int32)) hx hb dX8_areLoops_215 (by decide) ?_
        obtain rfl := kr _ (Option.some.inj h).symm
        exact h_zret (v := b2i false) hx hb hr hlocks (by omega) (by omega) (b2i_nar false) ⟨rfl, hPd _ _ (hW.drop hM)⟩ hS dX8_areLoops_216
  · replace h := gif_t c21 h
    refine lv_iload hx hb dX8_areLoops_185 (lv_at hl 11 rfl) ?_
    refine lv_iload hx hb dX8_areLoops_187 (lv_at hl 5 rfl) ?_
    refine lv_icmp_eq (tgt := 217) hx hb dX8_areLoops_189 (by decide) (fun c36 => ?_) (fun c36 => ?_)
    · replace h := gif_t c36 h
      exact wj_L_areLoops_217 h F E hY hPd  (by omega) (by omega) hcm hsm hcr hsr kc kx kr hM hS (lv_sub hl [1, 2, 3, 4, 5, 6, 7, 8, 9, 10, 12, 0] rfl)
    · replace h := gif_f c36 h
      refine lv_goto (tgt := 215) hx hb dX8_areLoops_192 (by decide) ?_
      refine lv_iconst (v := (0 : Int32)) hx hb dX8_areLoops_215 (by decide) ?_
      obtain rfl := kr _ (Option.some.inj h).symm
      exact h_zret (v := b2i false) hx hb hr hlocks (by omega) (by omega) (b2i_nar false) ⟨rfl, hPd _ _ (hW.drop hM)⟩ hS dX8_areLoops_216
def b_L_areLoops_154 (x1 : Int32) (x3 : Int32) (x4 : Int32) (x5 : Int32) (x6 : Int32) (x7 : Int32) (x8 : Int32) (x9 : Int32) (x10 : Int32) (x11 : Int32) (ν μ : gM) : Option ((Int32 × Int32 × Int32 × Int32 × Int32 × Int32 × gM) ⊕ ((Int32 × Int32 × Int32 × gM) ⊕ ((Bool) × gM))) :=
  if (x11 < 0) then some (.inr (.inl (x6, x7, x8, μ))) else if (x11 < (100 : Int32)) then j_L_areLoops_178 x1 x3 x4 x5 x6 x7 x8 x9 x10 x11 (x11 - x11 / (100 : Int32) * (100 : Int32)) (0 : Int32) ν μ else j_L_areLoops_178 x1 x3 x4 x5 x6 x7 x8 x9 x10 x11 (x11 - x11 / (100 : Int32) * (100 : Int32)) (1 : Int32) ν μ
set_option maxHeartbeats 4000000 in
set_option maxRecDepth 100000 in
theorem wb_L_areLoops_154 {p : Program} {l : Launch} {e : Env} {s : State} {m : MethodId} {args : Array Value} {below : List Frame} {meth : Method} {c : Code} {D : va_G} {cy : Nat → ClassId} {ad : Nat → Nat} {b : Nat} {la : Nat → Nat → Nat} {ν : gM} {P P0 : va_W} {x1 : Int32} {x3 : Int32} {x4 : Int32} {x5 : Int32} {x6 : Int32} {x7 : Int32} {x8 : Int32} {x9 : Int32} {x10 : Int32} {x11 : Int32} {μ : gM}  {o : (Int32 × Int32 × Int32 × Int32 × Int32 × Int32 × gM) ⊕ ((Int32 × Int32 × Int32 × gM) ⊕ ((Bool) × gM))} {RES : (Bool) × gM} {cells slots C0 S0 CM SM : Nat} (h : b_L_areLoops_154 x1 x3 x4 x5 x6 x7 x8 x9 x10 x11 ν μ = some o) (F : gF p s m meth c cX8_areLoops RX8 15 (some .boolean)) (E : hE l D cy ad b s) (hY : lY cy ad la ν P) (hPd : ∀ (μ : gM) (H : Heap), hW D cy ad b μ P [] H → hW D cy ad b μ P0 [] H) (hc : cells + 2 ≤ C0) (hs : slots + 8 ≤ S0) (hcm : C0 ≤ CM) (hsm : S0 ≤ SM) (hcr : CM ≤ 240) (hsr : SM ≤ 960) (kc : ∀ (t : Int32 × Int32 × Int32 × Int32 × Int32 × Int32 × gM) {H : Heap} {locs : List Loc} {ls : Array Slot}, o = .inl t → hW D cy ad b t.2.2.2.2.2.2 P [] H → va_S (hA b) s.heap H locs → lv_has ls 15 [(0, .ref (la 0 0)), (1, .int x1), (3, .int x3), (4, .int x4), (5, .int x5), (6, .int t.1), (7, .int t.2.1), (8, .int t.2.2.1), (9, .int t.2.2.2.1), (10, .int t.2.2.2.2.1), (11, .int t.2.2.2.2.2.1)] → W p l e ({ frames := 7, cells := 240, slots := 960, locals := 163 } : Room) s m args below meth c H locs C0 S0 (MQ below (hQ b (fun rv H => rv = some (.int (b2i RES.1)) ∧ hW D cy ad b RES.2 P0 [] H)) args s 240 960 (hA b)) (F0 m 154 ls [])) (kx : ∀ (t : Int32 × Int32 × Int32 × gM) {H : Heap} {locs : List Loc} {ls : Array Slot}, o = .inr (.inl t) → hW D cy ad b t.2.2.2 P [] H → va_S (hA b) s.heap H locs → lv_has ls 15 [(0, .ref (la 0 0)), (1, .int x1), (3, .int x3), (4, .int x4), (5, .int x5), (6, .int t.1), (7, .int t.2.1), (8, .int t.2.2.1)] → W p l e ({ frames := 7, cells := 240, slots := 960, locals := 163 } : Room) s m args below meth c H locs CM SM (MQ below (hQ b (fun rv H => rv = some (.int (b2i RES.1)) ∧ hW D cy ad b RES.2 P0 [] H)) args s 240 960 (hA b)) (F0 m 326 ls [])) (kr : ∀ x : (Bool) × gM, o = .inr (.inr x) → x = RES) {H : Heap} {locs : List Loc} {ls : Array Slot} (hM : hW D cy ad b μ P [] H) (hS : va_S (hA b) s.heap H locs) (hl : lv_has ls 15 [(0, .ref (la 0 0)), (1, .int x1), (3, .int x3), (4, .int x4), (5, .int x5), (6, .int x6), (7, .int x7), (8, .int x8), (9, .int x9), (10, .int x10), (11, .int x11)]) : W p l e ({ frames := 7, cells := 240, slots := 960, locals := 163 } : Room) s m args below meth c H locs cells slots (MQ below (hQ b (fun rv H => rv = some (.int (b2i RES.1)) ∧ hW D cy ad b RES.2 P0 [] H)) args s 240 960 (hA b)) (F0 m 154 ls []) := by
  obtain ⟨hx, hb, hml, hown, hlocks, hr⟩ := id F
  unfold b_L_areLoops_154 at h
  refine lv_iload hx hb dX8_areLoops_154 (lv_at hl 10 rfl) ?_
  refine lv_if_lt (tgt := 326) hx hb dX8_areLoops_156 (by decide) (fun c19 => ?_) (fun c19 => ?_)
  · replace h := gif_t c19 h
    refine W.widen (k := CM) (n := SM) (by omega) (by omega) ?_
    exact kx _ (Option.some.inj h).symm hM hS (lv_sub hl [0, 1, 2, 3, 4, 5, 6, 7] rfl)
  · replace h := gif_f c19 h
    refine lv_iload hx hb dX8_areLoops_159 (lv_at hl 10 rfl) ?_
    refine lv_bipush (v := (100 : Int32)) hx hb dX8_areLoops_161 (by decide) ?_
    refine lv_irem hx hb dX8_areLoops_163 (by decide) ?_
    refine lv_istore (lv' := [(12, .int (x11 - x11 / (100 : Int32) * (100 : Int32))), (0, .ref (la 0 0)), (1, .int x1), (3, .int x3), (4, .int x4), (5, .int x5), (6, .int x6), (7, .int x7), (8, .int x8), (9, .int x9), (10, .int x10), (11, .int x11)]) hx hb dX8_areLoops_164 hl (by decide) rfl (fun ls hl => ?_)
    refine lv_iload hx hb dX8_areLoops_166 (lv_at hl 11 rfl) ?_
    refine lv_bipush (v := (100 : Int32)) hx hb dX8_areLoops_168 (by decide) ?_
    refine lv_icmp_lt (tgt := 177) hx hb dX8_areLoops_170 (by decide) (fun c20 => ?_) (fun c20 => ?_)
    · replace h := gif_t c20 h
      refine lv_iconst (v := (0 : Int32)) hx hb dX8_areLoops_177 (by decide) ?_
      exact wj_L_areLoops_178 h F E hY hPd  (by omega) (by omega) hcm hsm hcr hsr kc kx kr hM hS (lv_sub hl [1, 2, 3, 4, 5, 6, 7, 8, 9, 10, 11, 0] rfl)
    · replace h := gif_f c20 h
      refine lv_iconst (v := (1 : Int32)) hx hb dX8_areLoops_173 (by decide) ?_
      refine lv_goto (tgt := 178) hx hb dX8_areLoops_174 (by decide) ?_
      exact wj_L_areLoops_178 h F E hY hPd  (by omega) (by omega) hcm hsm hcr hsr kc kx kr hM hS (lv_sub hl [1, 2, 3, 4, 5, 6, 7, 8, 9, 10, 11, 0] rfl)
set_option maxHeartbeats 4000000 in
theorem wl_L_areLoops_154 {p : Program} {l : Launch} {e : Env} {s : State} {m : MethodId} {args : Array Value} {below : List Frame} {meth : Method} {c : Code} {D : va_G} {cy : Nat → ClassId} {ad : Nat → Nat} {b : Nat} {la : Nat → Nat → Nat} {ν : gM} {P P0 : va_W} {x1 : Int32} {x3 : Int32} {x4 : Int32} {x5 : Int32}    {r : (Int32 × Int32 × Int32 × gM) ⊕ ((Bool) × gM)} {RES : (Bool) × gM} {CM SM : Nat} (F : gF p s m meth c cX8_areLoops RX8 15 (some .boolean)) (E : hE l D cy ad b s) (hY : lY cy ad la ν P) (hPd : ∀ (μ : gM) (H : Heap), hW D cy ad b μ P [] H → hW D cy ad b μ P0 [] H) (hcr : CM ≤ 240) (hsr : SM ≤ 960) (kx : ∀ (t : Int32 × Int32 × Int32 × gM) {H : Heap} {locs : List Loc} {ls : Array Slot}, r = .inl t → hW D cy ad b t.2.2.2 P [] H → va_S (hA b) s.heap H locs → lv_has ls 15 [(0, .ref (la 0 0)), (1, .int x1), (3, .int x3), (4, .int x4), (5, .int x5), (6, .int t.1), (7, .int t.2.1), (8, .int t.2.2.1)] → W p l e ({ frames := 7, cells := 240, slots := 960, locals := 163 } : Room) s m args below meth c H locs CM SM (MQ below (hQ b (fun rv H => rv = some (.int (b2i RES.1)) ∧ hW D cy ad b RES.2 P0 [] H)) args s 240 960 (hA b)) (F0 m 326 ls [])) (kr : ∀ x : (Bool) × gM, r = .inr x → x = RES) : ∀ (n : Nat) (x6 : Int32) (x7 : Int32) (x8 : Int32) (x9 : Int32) (x10 : Int32) (x11 : Int32)  (μ : gM) {cells slots : Nat}, cells + n * 2 ≤ CM → slots + n * 8 ≤ SM → gloop (fun t => b_L_areLoops_154 x1 x3 x4 x5 t.1 t.2.1 t.2.2.1 t.2.2.2.1 t.2.2.2.2.1 t.2.2.2.2.2.1 ν t.2.2.2.2.2.2) n (x6, x7, x8, x9, x10, x11, μ) = some r → ∀ {H : Heap} {locs : List Loc} {ls : Array Slot}, hW D cy ad b μ P [] H → va_S (hA b) s.heap H locs → lv_has ls 15 [(0, .ref (la 0 0)), (1, .int x1), (3, .int x3), (4, .int x4), (5, .int x5), (6, .int x6), (7, .int x7), (8, .int x8), (9, .int x9), (10, .int x10), (11, .int x11)] → W p l e ({ frames := 7, cells := 240, slots := 960, locals := 163 } : Room) s m args below meth c H locs cells slots (MQ below (hQ b (fun rv H => rv = some (.int (b2i RES.1)) ∧ hW D cy ad b RES.2 P0 [] H)) args s 240 960 (hA b)) (F0 m 154 ls []) := by
  intro n
  induction n with
  | zero =>
    intro x6 x7 x8 x9 x10 x11 μ cells slots hc hs h
    exact (gloop_0 h).elim
  | succ n ih =>
    intro x6 x7 x8 x9 x10 x11 μ cells slots hc hs h H locs ls hM hS hl
    obtain ⟨o, h0, hcc, hq⟩ := gloop_s h
    have h1 : b_L_areLoops_154 x1 x3 x4 x5 x6 x7 x8 x9 x10 x11 ν μ = some o := h0
    exact wb_L_areLoops_154 (C0 := cells + 2) (S0 := slots + 8) (CM := CM) (SM := SM) h1 F E hY hPd  (by omega) (by omega) (by omega) (by omega) hcr hsr (fun t H locs ls ho hM hS hl => ih t.1 t.2.1 t.2.2.1 t.2.2.2.1 t.2.2.2.2.1 t.2.2.2.2.2.1 t.2.2.2.2.2.2 (by omega) (by omega) (hcc t ho) hM hS hl) (fun t H locs ls ho hM hS hl => kx t (hq _ ho).symm hM hS hl) (fun x ho => kr x (hq _ ho).symm) hM hS hl
def b_L_areLoops_88 (x1 : Int32) (x3 : Int32) (x4 : Int32) (x5 : Int32) (ν μ : gM) : Option ((Int32 × Int32 × Int32 × gM) ⊕ ((Int32 × Int32 × gM) ⊕ ((Bool) × gM))) :=
  if ((gi ν 0 2) ≤ x5) then some (.inr (.inl (x3, x4, μ))) else gchk (gIn x5 (lLn ν)) (if ((gi ν 5 x5.toNatClampNeg) = 0) then some (.inl (x3, x4, (x5 + (1 : Int32)), μ)) else if (((x1 >>> (x5 &&& 31)) &&& (1 : Int32)) = (1 : Int32)) then some (.inl (x3, x4, (x5 + (1 : Int32)), μ)) else gchk (gIn x5 (lLn ν)) (Option.bind (f_X7_loopLine x3 (0 : Int32) μ) (fun q18 => Option.bind (gloop (fun t => b_L_areLoops_154 x1 x3 x4 x5 t.1 t.2.1 t.2.2.1 t.2.2.2.1 t.2.2.2.2.1 t.2.2.2.2.2.1 ν t.2.2.2.2.2.2) 10 ((gi ν (20 + x5.toNatClampNeg) 0), (0 : Int32), (0 : Int32), (0 : Int32), (0 : Int32), q18.1, q18.2)) (fun q37 => Sum.elim (fun t38 => Option.bind (f_X7_allowed x3 t38.2.2.2) (fun q39 => gchk (gIn x5 (lLn ν)) (if (t38.1 = (gi ν (20 + x5.toNatClampNeg) 0)) then Option.bind (f_X7_misclosure x3 q39.2) (fun q45 => if (q45.1 = t38.2.1) then Option.bind (f_X7_loopLength x3 q45.2) (fun q47 => if (q47.1 = t38.2.2.1) then if (((((10 : Int64) * (gi ν 8 0).toInt64) * (gi ν 8 0).toInt64) * t38.2.2.1.toInt64) < (q39.1.toInt64 * q39.1.toInt64)) then some (.inr (.inr (false, q47.2))) else if (((((10 : Int64) * (gi ν 8 0).toInt64) * (gi ν 8 0).toInt64) * t38.2.2.1.toInt64) < ((q39.1.toInt64 + (1 : Int64)) * (q39.1.toInt64 + (1 : Int64)))) then if ((iabs t38.2.1).toInt64 ≤ q39.1.toInt64) then some (.inl ((x3 + (1 : Int32)), (x4 ||| (0 : Int32)), (x5 + (1 : Int32)), q47.2)) else some (.inl ((x3 + (1 : Int32)), (x4 ||| ((1 : Int32) <<< (x3 &&& 31))), (x5 + (1 : Int32)), q47.2)) else some (.inr (.inr (false, q47.2))) else some (.inr (.inr (false, q47.2)))) else some (.inr (.inr (false, q45.2)))) else some (.inr (.inr (false, q39.2)))))) (fun x => some (.inr (.inr x))) q37))))
set_option maxHeartbeats 4000000 in
set_option maxRecDepth 100000 in
theorem wb_L_areLoops_88 {p : Program} {l : Launch} {e : Env} {s : State} {m : MethodId} {args : Array Value} {below : List Frame} {meth : Method} {c : Code} {D : va_G} {cy : Nat → ClassId} {ad : Nat → Nat} {b : Nat} {la : Nat → Nat → Nat} {ν : gM} {P P0 : va_W} {x1 : Int32} {x3 : Int32} {x4 : Int32} {x5 : Int32} {μ : gM}  {o : (Int32 × Int32 × Int32 × gM) ⊕ ((Int32 × Int32 × gM) ⊕ ((Bool) × gM))} {RES : (Bool) × gM} {cells slots C0 S0 CM SM : Nat} (h : b_L_areLoops_88 x1 x3 x4 x5 ν μ = some o) (F : gF p s m meth c cX8_areLoops RX8 15 (some .boolean)) (E : hE l D cy ad b s) (hY : lY cy ad la ν P) (hPd : ∀ (μ : gM) (H : Heap), hW D cy ad b μ P [] H → hW D cy ad b μ P0 [] H) (hc : cells + 20 ≤ C0) (hs : slots + 80 ≤ S0) (hcm : C0 ≤ CM) (hsm : S0 ≤ SM) (hcr : CM ≤ 240) (hsr : SM ≤ 960) (kc : ∀ (t : Int32 × Int32 × Int32 × gM) {H : Heap} {locs : List Loc} {ls : Array Slot}, o = .inl t → hW D cy ad b t.2.2.2 P [] H → va_S (hA b) s.heap H locs → lv_has ls 15 [(0, .ref (la 0 0)), (1, .int x1), (3, .int t.1), (4, .int t.2.1), (5, .int t.2.2.1)] → W p l e ({ frames := 7, cells := 240, slots := 960, locals := 163 } : Room) s m args below meth c H locs C0 S0 (MQ below (hQ b (fun rv H => rv = some (.int (b2i RES.1)) ∧ hW D cy ad b RES.2 P0 [] H)) args s 240 960 (hA b)) (F0 m 88 ls [])) (kx : ∀ (t : Int32 × Int32 × gM) {H : Heap} {locs : List Loc} {ls : Array Slot}, o = .inr (.inl t) → hW D cy ad b t.2.2 P [] H → va_S (hA b) s.heap H locs → lv_has ls 15 [(0, .ref (la 0 0)), (3, .int t.1), (4, .int t.2.1)] → W p l e ({ frames := 7, cells := 240, slots := 960, locals := 163 } : Room) s m args below meth c H locs CM SM (MQ below (hQ b (fun rv H => rv = some (.int (b2i RES.1)) ∧ hW D cy ad b RES.2 P0 [] H)) args s 240 960 (hA b)) (F0 m 463 ls [])) (kr : ∀ x : (Bool) × gM, o = .inr (.inr x) → x = RES) {H : Heap} {locs : List Loc} {ls : Array Slot} (hM : hW D cy ad b μ P [] H) (hS : va_S (hA b) s.heap H locs) (hl : lv_has ls 15 [(0, .ref (la 0 0)), (1, .int x1), (3, .int x3), (4, .int x4), (5, .int x5)]) : W p l e ({ frames := 7, cells := 240, slots := 960, locals := 163 } : Room) s m args below meth c H locs cells slots (MQ below (hQ b (fun rv H => rv = some (.int (b2i RES.1)) ∧ hW D cy ad b RES.2 P0 [] H)) args s 240 960 (hA b)) (F0 m 88 ls []) := by
  obtain ⟨hx, hb, hml, hown, hlocks, hr⟩ := id F
  unfold b_L_areLoops_88 at h
  refine lv_iload hx hb dX8_areLoops_88 (lv_at hl 4 rfl) ?_
  refine lv_aload_n hx hb dX8_areLoops_90 rfl (lv_at hl 0 rfl) ?_
  refine h_get hx hb hown E hM (hp_m (hY.c1 0 rfl)) gC_X8 2 (by decide) (v := .int (gi ν 0 2)) rfl kw_1026 dX8_areLoops_91 ?_
  refine lv_icmp_ge (tgt := 463) hx hb dX8_areLoops_94 (by decide) (fun c12 => ?_) (fun c12 => ?_)
  · replace h := gif_t c12 h
    refine W.widen (k := CM) (n := SM) (by omega) (by omega) ?_
    exact kx _ (Option.some.inj h).symm hM hS (lv_sub hl [0, 2, 3] rfl)
  · replace h := gif_f c12 h
    refine lv_aload_n hx hb dX8_areLoops_97 rfl (lv_at hl 0 rfl) ?_
    refine h_get hx hb hown E hM (hp_m (hY.c1 0 rfl)) gC_X8 7 (by decide) (v := .ref (la 5 0)) rfl kw_1031 dX8_areLoops_98 ?_
    refine lv_iload hx hb dX8_areLoops_101 (lv_at hl 4 rfl) ?_
    obtain ⟨c13, h⟩ := gchk_e h
    refine l_zald hx hb E hM (hp_m (hY.c1 5 rfl)) c13 (v := (gi ν 5 x5.toNatClampNeg)) rfl dX8_areLoops_103 ?_
    refine lv_if_eq (tgt := 457) hx hb dX8_areLoops_104 (by decide) (fun c14 => ?_) (fun c14 => ?_)
    · replace h := gif_t c14 h
      refine lv_iinc (v := (x5 + (1 : Int32))) (lv' := [(5, .int (x5 + (1 : Int32))), (0, .ref (la 0 0)), (1, .int x1), (3, .int x3), (4, .int x4)]) hx hb dX8_areLoops_457 hl (k := 4) rfl rfl (by decide) rfl (fun ls hl => ?_)
      refine lv_goto (tgt := 88) hx hb dX8_areLoops_460 (by decide) ?_
      refine W.widen (k := C0) (n := S0) (by omega) (by omega) ?_
      exact kc _ (Option.some.inj h).symm hM hS (lv_sub hl [1, 2, 3, 4, 0] rfl)
    · replace h := gif_f c14 h
      refine lv_iload_n hx hb dX8_areLoops_107 rfl (lv_at hl 1 rfl) ?_
      refine lv_iload hx hb dX8_areLoops_108 (lv_at hl 4 rfl) ?_
      refine lv_ishr hx hb dX8_areLoops_110 ?_
      refine lv_iconst (v := (1 : Int32)) hx hb dX8_areLoops_111 (by decide) ?_
      refine lv_iand hx hb dX8_areLoops_112 ?_
      refine lv_iconst (v := (1 : Int32)) hx hb dX8_areLoops_113 (by decide) ?_
      refine lv_icmp_ne (tgt := 120) hx hb dX8_areLoops_114 (by decide) (fun c15 => ?_) (fun c15 => ?_)
      · replace h := gif_f c15 h
        refine lv_aload_n hx hb dX8_areLoops_120 rfl (lv_at hl 0 rfl) ?_
        refine h_get hx hb hown E hM (hp_m (hY.c1 0 rfl)) gC_X8 5 (by decide) (v := .ref (la 3 0)) rfl kw_1029 dX8_areLoops_121 ?_
        refine lv_iload hx hb dX8_areLoops_124 (lv_at hl 4 rfl) ?_
        obtain ⟨c16, h⟩ := gchk_e h
        refine h_rald hx hb E hM (hp_m (hY.c1 3 rfl)) c16 (v := .ref (la 20 x5.toNatClampNeg)) (x_lrf c16) dX8_areLoops_126 ?_
        refine lv_iconst (v := (0 : Int32)) hx hb dX8_areLoops_127 (by decide) ?_
        refine l_iald hx hb E hM (hp_m (hY.c2 c16.2 0 rfl)) (⟨by decide, by decide⟩ : gIn (0 : Int32) 2) (v := (gi ν (20 + x5.toNatClampNeg) 0)) (congrArg (ν.1 (20 + x5.toNatClampNeg)) (by decide : (0 : Int32).toNatClampNeg = 0)) dX8_areLoops_128 ?_
        refine lv_istore (lv' := [(6, .int (gi ν (20 + x5.toNatClampNeg) 0)), (0, .ref (la 0 0)), (1, .int x1), (3, .int x3), (4, .int x4), (5, .int x5)]) hx hb dX8_areLoops_129 hl (by decide) rfl (fun ls hl => ?_)
        refine lv_iconst (v := (0 : Int32)) hx hb dX8_areLoops_131 (by decide) ?_
        refine lv_istore (lv' := [(7, .int (0 : Int32)), (6, .int (gi ν (20 + x5.toNatClampNeg) 0)), (0, .ref (la 0 0)), (1, .int x1), (3, .int x3), (4, .int x4), (5, .int x5)]) hx hb dX8_areLoops_132 hl (by decide) rfl (fun ls hl => ?_)
        refine lv_iconst (v := (0 : Int32)) hx hb dX8_areLoops_134 (by decide) ?_
        refine lv_istore (lv' := [(8, .int (0 : Int32)), (7, .int (0 : Int32)), (6, .int (gi ν (20 + x5.toNatClampNeg) 0)), (0, .ref (la 0 0)), (1, .int x1), (3, .int x3), (4, .int x4), (5, .int x5)]) hx hb dX8_areLoops_135 hl (by decide) rfl (fun ls hl => ?_)
        refine lv_iconst (v := (0 : Int32)) hx hb dX8_areLoops_137 (by decide) ?_
        refine lv_istore (lv' := [(9, .int (0 : Int32)), (8, .int (0 : Int32)), (7, .int (0 : Int32)), (6, .int (gi ν (20 + x5.toNatClampNeg) 0)), (0, .ref (la 0 0)), (1, .int x1), (3, .int x3), (4, .int x4), (5, .int x5)]) hx hb dX8_areLoops_138 hl (by decide) rfl (fun ls hl => ?_)
        refine lv_iconst (v := (0 : Int32)) hx hb dX8_areLoops_140 (by decide) ?_
        refine lv_istore (lv' := [(10, .int (0 : Int32)), (9, .int (0 : Int32)), (8, .int (0 : Int32)), (7, .int (0 : Int32)), (6, .int (gi ν (20 + x5.toNatClampNeg) 0)), (0, .ref (la 0 0)), (1, .int x1), (3, .int x3), (4, .int x4), (5, .int x5)]) hx hb dX8_areLoops_141 hl (by decide) rfl (fun ls hl => ?_)
        refine lv_aload_n hx hb dX8_areLoops_143 rfl (lv_at hl 5 rfl) ?_
        refine h_get hx hb hown E hM (hp_m (hY.c1 0 rfl)) gC_X8 0 (by decide) (v := .ref (ad 0)) rfl kw_1023 dX8_areLoops_144 ?_
        refine lv_iload_n hx hb dX8_areLoops_147 rfl (lv_at hl 7 rfl) ?_
        refine lv_iconst (v := (0 : Int32)) hx hb dX8_areLoops_148 (by decide) ?_
        obtain ⟨q18, hq18, h⟩ := gbind_e h
        refine h_callC (As := [.int x3, .int (0 : Int32)]) (rest := []) hx hb (hml.trans hl.1.symm) hown E hM hS hy_X7_loopLine kw_1346 (c_X7_loopLine hq18) hk_0 dd_0 rfl rfl rfl (Nat.le_of_ble_eq_true rfl) ⟨(Nat.le_of_ble_eq_true rfl), (Nat.le_of_ble_eq_true rfl)⟩ ⟨(show _ ≤ 240 by omega), (show _ ≤ 960 by omega)⟩ dX8_areLoops_149 (fun H locs hM hS => ?_)
        refine lv_istore (lv' := [(11, .int q18.1), (10, .int (0 : Int32)), (9, .int (0 : Int32)), (8, .int (0 : Int32)), (7, .int (0 : Int32)), (6, .int (gi ν (20 + x5.toNatClampNeg) 0)), (0, .ref (la 0 0)), (1, .int x1), (3, .int x3), (4, .int x4), (5, .int x5)]) hx hb dX8_areLoops_152 hl (by decide) rfl (fun ls hl => ?_)
        obtain ⟨q37, h1, h⟩ := gbind_e h
        refine wl_L_areLoops_154 (CM := cells + 20) (SM := slots + 80) F E hY hPd  (by omega) (by omega) (r := q37) (fun t38 H locs ls e1 hM hS hl => ?_) (fun x ex => ?_) 10 (gi ν (20 + x5.toNatClampNeg) 0) (0 : Int32) (0 : Int32) (0 : Int32) (0 : Int32) q18.1 q18.2 (by omega) (by omega) h1 hM hS (lv_sub hl [6, 7, 8, 9, 10, 5, 4, 3, 2, 1, 0] rfl)
        · replace h := gsum_l e1 h
          refine lv_aload_n hx hb dX8_areLoops_326 rfl (lv_at hl 0 rfl) ?_
          refine h_get hx hb hown E hM (hp_m (hY.c1 0 rfl)) gC_X8 0 (by decide) (v := .ref (ad 0)) rfl kw_1023 dX8_areLoops_327 ?_
          refine lv_iload_n hx hb dX8_areLoops_330 rfl (lv_at hl 2 rfl) ?_
          obtain ⟨q39, hq39, h⟩ := gbind_e h
          refine h_callC (As := [.int x3]) (rest := []) hx hb (hml.trans hl.1.symm) hown E hM hS hy_X7_allowed kw_1355 (c_X7_allowed hq39) hk_0 dd_0 rfl rfl rfl (Nat.le_of_ble_eq_true rfl) ⟨(Nat.le_of_ble_eq_true rfl), (Nat.le_of_ble_eq_true rfl)⟩ ⟨(show _ ≤ 240 by omega), (show _ ≤ 960 by omega)⟩ dX8_areLoops_331 (fun H locs hM hS => ?_)
          refine lv_i2l (v := q39.1.toInt64) hx hb dX8_areLoops_334 rfl ?_
          refine lv_lstore (lv' := [(11, .long q39.1.toInt64), (0, .ref (la 0 0)), (1, .int x1), (3, .int x3), (4, .int x4), (5, .int x5), (6, .int t38.1), (7, .int t38.2.1), (8, .int t38.2.2.1)]) hx hb dX8_areLoops_335 hl (by decide) rfl (fun ls hl => ?_)
          refine lv_ldc2 hx hb hown (v := (10 : Int64)) (E.kw kw_1359) dX8_areLoops_337 ?_
          refine lv_aload_n hx hb dX8_areLoops_340 rfl (lv_at hl 1 rfl) ?_
          refine h_get hx hb hown E hM (hp_m (hY.c1 0 rfl)) gC_X8 9 (by decide) (v := .ref (la 8 0)) rfl kw_1033 dX8_areLoops_341 ?_
          refine lv_iconst (v := (0 : Int32)) hx hb dX8_areLoops_344 (by decide) ?_
          refine l_iald hx hb E hM (hp_m (hY.c1 8 rfl)) (⟨by decide, by decide⟩ : gIn (0 : Int32) 3) (v := (gi ν 8 0)) (congrArg (ν.1 8) (by decide : (0 : Int32).toNatClampNeg = 0)) dX8_areLoops_345 ?_
          refine lv_i2l (v := (gi ν 8 0).toInt64) hx hb dX8_areLoops_346 rfl ?_
          refine lv_lmul hx hb dX8_areLoops_347 ?_
          refine lv_aload_n hx hb dX8_areLoops_348 rfl (lv_at hl 1 rfl) ?_
          refine h_get hx hb hown E hM (hp_m (hY.c1 0 rfl)) gC_X8 9 (by decide) (v := .ref (la 8 0)) rfl kw_1033 dX8_areLoops_349 ?_
          refine lv_iconst (v := (0 : Int32)) hx hb dX8_areLoops_352 (by decide) ?_
          refine l_iald hx hb E hM (hp_m (hY.c1 8 rfl)) (⟨by decide, by decide⟩ : gIn (0 : Int32) 3) (v := (gi ν 8 0)) (congrArg (ν.1 8) (by decide : (0 : Int32).toNatClampNeg = 0)) dX8_areLoops_353 ?_
          refine lv_i2l (v := (gi ν 8 0).toInt64) hx hb dX8_areLoops_354 rfl ?_
          refine lv_lmul hx hb dX8_areLoops_355 ?_
          refine lv_iload hx hb dX8_areLoops_356 (lv_at hl 8 rfl) ?_
          refine lv_i2l (v := t38.2.2.1.toInt64) hx hb dX8_areLoops_358 rfl ?_
          refine lv_lmul hx hb dX8_areLoops_359 ?_
          refine lv_lstore (lv' := [(13, .long ((((10 : Int64) * (gi ν 8 0).toInt64) * (gi ν 8 0).toInt64) * t38.2.2.1.toInt64)), (11, .long q39.1.toInt64), (0, .ref (la 0 0)), (1, .int x1), (3, .int x3), (4, .int x4), (5, .int x5), (6, .int t38.1), (7, .int t38.2.1), (8, .int t38.2.2.1)]) hx hb dX8_areLoops_360 hl (by decide) rfl (fun ls hl => ?_)
          refine lv_iload hx hb dX8_areLoops_362 (lv_at hl 7 rfl) ?_
          refine lv_aload_n hx hb dX8_areLoops_364 rfl (lv_at hl 2 rfl) ?_
          refine h_get hx hb hown E hM (hp_m (hY.c1 0 rfl)) gC_X8 5 (by decide) (v := .ref (la 3 0)) rfl kw_1029 dX8_areLoops_365 ?_
          refine lv_iload hx hb dX8_areLoops_368 (lv_at hl 6 rfl) ?_
          obtain ⟨c42, h⟩ := gchk_e h
          refine h_rald hx hb E hM (hp_m (hY.c1 3 rfl)) c42 (v := .ref (la 20 x5.toNatClampNeg)) (x_lrf c42) dX8_areLoops_370 ?_
          refine lv_iconst (v := (0 : Int32)) hx hb dX8_areLoops_371 (by decide) ?_
          refine l_iald hx hb E hM (hp_m (hY.c2 c42.2 0 rfl)) (⟨by decide, by decide⟩ : gIn (0 : Int32) 2) (v := (gi ν (20 + x5.toNatClampNeg) 0)) (congrArg (ν.1 (20 + x5.toNatClampNeg)) (by decide : (0 : Int32).toNatClampNeg = 0)) dX8_areLoops_372 ?_
          refine lv_icmp_ne (tgt := 428) hx hb dX8_areLoops_373 (by decide) (fun c44 => ?_) (fun c44 => ?_)
          · replace h := gif_f c44 h
            refine lv_iconst (v := (0 : Int32)) hx hb dX8_areLoops_428 (by decide) ?_
            obtain rfl := kr _ (Option.some.inj h).symm
            exact h_zret (v := b2i false) hx hb hr hlocks (by omega) (by omega) (b2i_nar false) ⟨rfl, hPd _ _ (hW.drop hM)⟩ hS dX8_areLoops_429
          · replace h := gif_t c44 h
            refine lv_aload_n hx hb dX8_areLoops_376 rfl (lv_at hl 2 rfl) ?_
            refine h_get hx hb hown E hM (hp_m (hY.c1 0 rfl)) gC_X8 0 (by decide) (v := .ref (ad 0)) rfl kw_1023 dX8_areLoops_377 ?_
            refine lv_iload_n hx hb dX8_areLoops_380 rfl (lv_at hl 4 rfl) ?_
            obtain ⟨q45, hq45, h⟩ := gbind_e h
            refine h_callC (As := [.int x3]) (rest := []) hx hb (hml.trans hl.1.symm) hown E hM hS hy_X7_misclosure kw_1360 (c_X7_misclosure hq45) hk_0 dd_0 rfl rfl rfl (Nat.le_of_ble_eq_true rfl) ⟨(Nat.le_of_ble_eq_true rfl), (Nat.le_of_ble_eq_true rfl)⟩ ⟨(show _ ≤ 240 by omega), (show _ ≤ 960 by omega)⟩ dX8_areLoops_381 (fun H locs hM hS => ?_)
            refine lv_iload hx hb dX8_areLoops_384 (lv_at hl 8 rfl) ?_
            refine lv_icmp_ne (tgt := 428) hx hb dX8_areLoops_386 (by decide) (fun c46 => ?_) (fun c46 => ?_)
            · replace h := gif_f c46 h
              refine lv_iconst (v := (0 : Int32)) hx hb dX8_areLoops_428 (by decide) ?_
              obtain rfl := kr _ (Option.some.inj h).symm
              exact h_zret (v := b2i false) hx hb hr hlocks (by omega) (by omega) (b2i_nar false) ⟨rfl, hPd _ _ (hW.drop hM)⟩ hS dX8_areLoops_429
            · replace h := gif_t c46 h
              refine lv_aload_n hx hb dX8_areLoops_389 rfl (lv_at hl 2 rfl) ?_
              refine h_get hx hb hown E hM (hp_m (hY.c1 0 rfl)) gC_X8 0 (by decide) (v := .ref (ad 0)) rfl kw_1023 dX8_areLoops_390 ?_
              refine lv_iload_n hx hb dX8_areLoops_393 rfl (lv_at hl 4 rfl) ?_
              obtain ⟨q47, hq47, h⟩ := gbind_e h
              refine h_callC (As := [.int x3]) (rest := []) hx hb (hml.trans hl.1.symm) hown E hM hS hy_X7_loopLength kw_1364 (c_X7_loopLength hq47) hk_0 dd_0 rfl rfl rfl (Nat.le_of_ble_eq_true rfl) ⟨(Nat.le_of_ble_eq_true rfl), (Nat.le_of_ble_eq_true rfl)⟩ ⟨(show _ ≤ 240 by omega), (show _ ≤ 960 by omega)⟩ dX8_areLoops_394 (fun H locs hM hS => ?_)
              refine lv_iload hx hb dX8_areLoops_397 (lv_at hl 9 rfl) ?_
              refine lv_icmp_ne (tgt := 428) hx hb dX8_areLoops_399 (by decide) (fun c48 => ?_) (fun c48 => ?_)
              · replace h := gif_f c48 h
                refine lv_iconst (v := (0 : Int32)) hx hb dX8_areLoops_428 (by decide) ?_
                obtain rfl := kr _ (Option.some.inj h).symm
                exact h_zret (v := b2i false) hx hb hr hlocks (by omega) (by omega) (b2i_nar false) ⟨rfl, hPd _ _ (hW.drop hM)⟩ hS dX8_areLoops_429
              · replace h := gif_t c48 h
                refine lv_lload hx hb dX8_areLoops_402 (lv_at hl 1 rfl) ?_
                refine lv_lload hx hb dX8_areLoops_404 (lv_at hl 1 rfl) ?_
                refine lv_lmul hx hb dX8_areLoops_406 ?_
                refine lv_lload hx hb dX8_areLoops_407 (lv_at hl 0 rfl) ?_
                refine W.lcmp hx hb dX8_areLoops_409 ?_
                refine lv_if_gt (tgt := 428) hx hb dX8_areLoops_410 (by decide) (fun c49 => ?_) (fun c49 => ?_)
                · replace c49 := (lg_cmp_gt _ _).mp c49
                  replace h := gif_t c49 h
                  refine lv_iconst (v := (0 : Int32)) hx hb dX8_areLoops_428 (by decide) ?_
                  obtain rfl := kr _ (Option.some.inj h).symm
                  exact h_zret (v := b2i false) hx hb hr hlocks (by omega) (by omega) (b2i_nar false) ⟨rfl, hPd _ _ (hW.drop hM)⟩ hS dX8_areLoops_429
                · replace c49 := fun w => c49 ((lg_cmp_gt _ _).mpr w)
                  replace h := gif_f c49 h
                  refine lv_lload hx hb dX8_areLoops_413 (lv_at hl 1 rfl) ?_
                  refine lv_lconst (v := (1 : Int64)) hx hb dX8_areLoops_415 (by decide) ?_
                  refine lv_ladd hx hb dX8_areLoops_416 ?_
                  refine lv_lload hx hb dX8_areLoops_417 (lv_at hl 1 rfl) ?_
                  refine lv_lconst (v := (1 : Int64)) hx hb dX8_areLoops_419 (by decide) ?_
                  refine lv_ladd hx hb dX8_areLoops_420 ?_
                  refine lv_lmul hx hb dX8_areLoops_421 ?_
                  refine lv_lload hx hb dX8_areLoops_422 (lv_at hl 0 rfl) ?_
                  refine W.lcmp hx hb dX8_areLoops_424 ?_
                  refine lv_if_gt (tgt := 430) hx hb dX8_areLoops_425 (by decide) (fun c50 => ?_) (fun c50 => ?_)
                  · replace c50 := (lg_cmp_gt _ _).mp c50
                    replace h := gif_t c50 h
                    refine lv_iload hx hb dX8_areLoops_430 (lv_at hl 5 rfl) ?_
                    refine lv_iload hx hb dX8_areLoops_432 (lv_at hl 8 rfl) ?_
                    refine va_mabs hx hb (hml.trans hl.1.symm) hown (E.kw kw_809) (E.kw kw_810) (E.kw kw_67) (E.kw kw_811) (Nat.le_of_ble_eq_true rfl) (Nat.le_of_ble_eq_true rfl) (show _ ≤ 240 by omega) (show _ ≤ 960 by omega) dX8_areLoops_434 ?_
                    refine lv_i2l (v := (iabs t38.2.1).toInt64) hx hb dX8_areLoops_437 rfl ?_
                    refine lv_lload hx hb dX8_areLoops_438 (lv_at hl 1 rfl) ?_
                    refine W.lcmp hx hb dX8_areLoops_440 ?_
                    refine lv_if_le (tgt := 450) hx hb dX8_areLoops_441 (by decide) (fun c51 => ?_) (fun c51 => ?_)
                    · replace c51 := (lg_cmp_le _ _).mp c51
                      replace h := gif_t c51 h
                      refine lv_iconst (v := (0 : Int32)) hx hb dX8_areLoops_450 (by decide) ?_
                      refine lv_ior hx hb dX8_areLoops_451 ?_
                      refine lv_istore (lv' := [(4, .int (x4 ||| (0 : Int32))), (13, .long ((((10 : Int64) * (gi ν 8 0).toInt64) * (gi ν 8 0).toInt64) * t38.2.2.1.toInt64)), (11, .long q39.1.toInt64), (0, .ref (la 0 0)), (1, .int x1), (3, .int x3), (5, .int x5), (6, .int t38.1), (7, .int t38.2.1), (8, .int t38.2.2.1)]) hx hb dX8_areLoops_452 hl (by decide) rfl (fun ls hl => ?_)
                      refine lv_iinc (v := (x3 + (1 : Int32))) (lv' := [(3, .int (x3 + (1 : Int32))), (4, .int (x4 ||| (0 : Int32))), (13, .long ((((10 : Int64) * (gi ν 8 0).toInt64) * (gi ν 8 0).toInt64) * t38.2.2.1.toInt64)), (11, .long q39.1.toInt64), (0, .ref (la 0 0)), (1, .int x1), (5, .int x5), (6, .int t38.1), (7, .int t38.2.1), (8, .int t38.2.2.1)]) hx hb dX8_areLoops_454 hl (k := 5) rfl rfl (by decide) rfl (fun ls hl => ?_)
                      refine lv_iinc (v := (x5 + (1 : Int32))) (lv' := [(5, .int (x5 + (1 : Int32))), (3, .int (x3 + (1 : Int32))), (4, .int (x4 ||| (0 : Int32))), (13, .long ((((10 : Int64) * (gi ν 8 0).toInt64) * (gi ν 8 0).toInt64) * t38.2.2.1.toInt64)), (11, .long q39.1.toInt64), (0, .ref (la 0 0)), (1, .int x1), (6, .int t38.1), (7, .int t38.2.1), (8, .int t38.2.2.1)]) hx hb dX8_areLoops_457 hl (k := 6) rfl rfl (by decide) rfl (fun ls hl => ?_)
                      refine lv_goto (tgt := 88) hx hb dX8_areLoops_460 (by decide) ?_
                      refine W.widen (k := C0) (n := S0) (by omega) (by omega) ?_
                      exact kc _ (Option.some.inj h).symm hM hS (lv_sub hl [5, 6, 1, 2, 0] rfl)
                    · replace c51 := fun w => c51 ((lg_cmp_le _ _).mpr w)
                      replace h := gif_f c51 h
                      refine lv_iconst (v := (1 : Int32)) hx hb dX8_areLoops_444 (by decide) ?_
                      refine lv_iload_n hx hb dX8_areLoops_445 rfl (lv_at hl 4 rfl) ?_
                      refine lv_ishl hx hb dX8_areLoops_446 ?_
                      refine lv_goto (tgt := 451) hx hb dX8_areLoops_447 (by decide) ?_
                      refine lv_ior hx hb dX8_areLoops_451 ?_
                      refine lv_istore (lv' := [(4, .int (x4 ||| ((1 : Int32) <<< (x3 &&& 31)))), (13, .long ((((10 : Int64) * (gi ν 8 0).toInt64) * (gi ν 8 0).toInt64) * t38.2.2.1.toInt64)), (11, .long q39.1.toInt64), (0, .ref (la 0 0)), (1, .int x1), (3, .int x3), (5, .int x5), (6, .int t38.1), (7, .int t38.2.1), (8, .int t38.2.2.1)]) hx hb dX8_areLoops_452 hl (by decide) rfl (fun ls hl => ?_)
                      refine lv_iinc (v := (x3 + (1 : Int32))) (lv' := [(3, .int (x3 + (1 : Int32))), (4, .int (x4 ||| ((1 : Int32) <<< (x3 &&& 31)))), (13, .long ((((10 : Int64) * (gi ν 8 0).toInt64) * (gi ν 8 0).toInt64) * t38.2.2.1.toInt64)), (11, .long q39.1.toInt64), (0, .ref (la 0 0)), (1, .int x1), (5, .int x5), (6, .int t38.1), (7, .int t38.2.1), (8, .int t38.2.2.1)]) hx hb dX8_areLoops_454 hl (k := 5) rfl rfl (by decide) rfl (fun ls hl => ?_)
                      refine lv_iinc (v := (x5 + (1 : Int32))) (lv' := [(5, .int (x5 + (1 : Int32))), (3, .int (x3 + (1 : Int32))), (4, .int (x4 ||| ((1 : Int32) <<< (x3 &&& 31)))), (13, .long ((((10 : Int64) * (gi ν 8 0).toInt64) * (gi ν 8 0).toInt64) * t38.2.2.1.toInt64)), (11, .long q39.1.toInt64), (0, .ref (la 0 0)), (1, .int x1), (6, .int t38.1), (7, .int t38.2.1), (8, .int t38.2.2.1)]) hx hb dX8_areLoops_457 hl (k := 6) rfl rfl (by decide) rfl (fun ls hl => ?_)
                      refine lv_goto (tgt := 88) hx hb dX8_areLoops_460 (by decide) ?_
                      refine W.widen (k := C0) (n := S0) (by omega) (by omega) ?_
                      exact kc _ (Option.some.inj h).symm hM hS (lv_sub hl [5, 6, 1, 2, 0] rfl)
                  · replace c50 := fun w => c50 ((lg_cmp_gt _ _).mpr w)
                    replace h := gif_f c50 h
                    refine lv_iconst (v := (0 : Int32)) hx hb dX8_areLoops_428 (by decide) ?_
                    obtain rfl := kr _ (Option.some.inj h).symm
                    exact h_zret (v := b2i false) hx hb hr hlocks (by omega) (by omega) (b2i_nar false) ⟨rfl, hPd _ _ (hW.drop hM)⟩ hS dX8_areLoops_429
        · have h2 := gsum_r ex h
          exact kr x (Option.some.inj h2.symm)
      · replace h := gif_t c15 h
        refine lv_goto (tgt := 457) hx hb dX8_areLoops_117 (by decide) ?_
        refine lv_iinc (v := (x5 + (1 : Int32))) (lv' := [(5, .int (x5 + (1 : Int32))), (0, .ref (la 0 0)), (1, .int x1), (3, .int x3), (4, .int x4)]) hx hb dX8_areLoops_457 hl (k := 4) rfl rfl (by decide) rfl (fun ls hl => ?_)
        refine lv_goto (tgt := 88) hx hb dX8_areLoops_460 (by decide) ?_
        refine W.widen (k := C0) (n := S0) (by omega) (by omega) ?_
        exact kc _ (Option.some.inj h).symm hM hS (lv_sub hl [1, 2, 3, 4, 0] rfl)
set_option maxHeartbeats 4000000 in
theorem wl_L_areLoops_88 {p : Program} {l : Launch} {e : Env} {s : State} {m : MethodId} {args : Array Value} {below : List Frame} {meth : Method} {c : Code} {D : va_G} {cy : Nat → ClassId} {ad : Nat → Nat} {b : Nat} {la : Nat → Nat → Nat} {ν : gM} {P P0 : va_W} {x1 : Int32}    {r : (Int32 × Int32 × gM) ⊕ ((Bool) × gM)} {RES : (Bool) × gM} {CM SM : Nat} (F : gF p s m meth c cX8_areLoops RX8 15 (some .boolean)) (E : hE l D cy ad b s) (hY : lY cy ad la ν P) (hPd : ∀ (μ : gM) (H : Heap), hW D cy ad b μ P [] H → hW D cy ad b μ P0 [] H) (hcr : CM ≤ 240) (hsr : SM ≤ 960) (kx : ∀ (t : Int32 × Int32 × gM) {H : Heap} {locs : List Loc} {ls : Array Slot}, r = .inl t → hW D cy ad b t.2.2 P [] H → va_S (hA b) s.heap H locs → lv_has ls 15 [(0, .ref (la 0 0)), (3, .int t.1), (4, .int t.2.1)] → W p l e ({ frames := 7, cells := 240, slots := 960, locals := 163 } : Room) s m args below meth c H locs CM SM (MQ below (hQ b (fun rv H => rv = some (.int (b2i RES.1)) ∧ hW D cy ad b RES.2 P0 [] H)) args s 240 960 (hA b)) (F0 m 463 ls [])) (kr : ∀ x : (Bool) × gM, r = .inr x → x = RES) : ∀ (n : Nat) (x3 : Int32) (x4 : Int32) (x5 : Int32)  (μ : gM) {cells slots : Nat}, cells + n * 20 ≤ CM → slots + n * 80 ≤ SM → gloop (fun t => b_L_areLoops_88 x1 t.1 t.2.1 t.2.2.1 ν t.2.2.2) n (x3, x4, x5, μ) = some r → ∀ {H : Heap} {locs : List Loc} {ls : Array Slot}, hW D cy ad b μ P [] H → va_S (hA b) s.heap H locs → lv_has ls 15 [(0, .ref (la 0 0)), (1, .int x1), (3, .int x3), (4, .int x4), (5, .int x5)] → W p l e ({ frames := 7, cells := 240, slots := 960, locals := 163 } : Room) s m args below meth c H locs cells slots (MQ below (hQ b (fun rv H => rv = some (.int (b2i RES.1)) ∧ hW D cy ad b RES.2 P0 [] H)) args s 240 960 (hA b)) (F0 m 88 ls []) := by
  intro n
  induction n with
  | zero =>
    intro x3 x4 x5 μ cells slots hc hs h
    exact (gloop_0 h).elim
  | succ n ih =>
    intro x3 x4 x5 μ cells slots hc hs h H locs ls hM hS hl
    obtain ⟨o, h0, hcc, hq⟩ := gloop_s h
    have h1 : b_L_areLoops_88 x1 x3 x4 x5 ν μ = some o := h0
    exact wb_L_areLoops_88 (C0 := cells + 20) (S0 := slots + 80) (CM := CM) (SM := SM) h1 F E hY hPd  (by omega) (by omega) (by omega) (by omega) hcr hsr (fun t H locs ls ho hM hS hl => ih t.1 t.2.1 t.2.2.1 t.2.2.2 (by omega) (by omega) (hcc t ho) hM hS hl) (fun t H locs ls ho hM hS hl => kx t (hq _ ho).symm hM hS hl) (fun x ho => kr x (hq _ ho).symm) hM hS hl
def f_L_areLoops  (ν μ : gM) : Option ((Bool) × gM) :=
  Option.bind (f_X7_treeLines  μ) (fun q1 => Option.bind (gloop (fun t => b_L_areLoops_12 q1.1 t.1 t.2 ν q1.2) 12 ((0 : Int32), (0 : Int32))) (fun q5 => Option.bind (f_J6_bitCount_0f7a4 q1.1 q1.2) (fun q6 => Option.bind (f_X7_partCount  q1.2) (fun q7 => if (q6 = ((gi ν 0 1) - q7.1)) then Option.bind (f_X7_loopCount  q7.2) (fun q9 => Option.bind (f_J6_bitCount_0f7a4 q1.1 q9.2) (fun q10 => if (q9.1 = (q5 - q10)) then Option.bind (gloop (fun t => b_L_areLoops_88 q1.1 t.1 t.2.1 t.2.2.1 ν t.2.2.2) 12 ((0 : Int32), (0 : Int32), (0 : Int32), q9.2)) (fun q52 => Sum.elim (fun t53 => Option.bind (f_X7_loopCount  t53.2.2) (fun q54 => if (t53.1 = q54.1) then Option.bind (f_X7_badLoops  q54.2) (fun q56 => if (q56.1 = t53.2.1) then some (true, q56.2) else some (false, q56.2)) else some (false, q54.2))) (fun x => some x) q52) else some (false, q9.2))) else some (false, q7.2)))))
set_option maxHeartbeats 4000000 in
set_option maxRecDepth 100000 in
theorem c_L_areLoops {l : Launch} {D : va_G} {cy : Nat → ClassId} {ad : Nat → Nat} {b : Nat} {la : Nat → Nat → Nat} {μ ν : gM} {P : va_W}  {RES : (Bool) × gM} (hY : lY cy ad la ν P) (h : f_L_areLoops  ν μ = some RES) : Met l yX8_areLoops [.code yX8_areLoops cX8_areLoops 15 (some .boolean)] ({ frames := 7, cells := 240, slots := 960, locals := 163 } : Room) (va_Pc [.ref (la 0 0)] (hB l D cy ad b μ P [])) (hQ b (fun rv H => rv = some (.int (b2i RES.1)) ∧ hW D cy ad b RES.2 P [] H)) 240 960 (hA b) := by
  refine Met.ofW (cc := cX8_areLoops) (maxL := 15) (ret := (some .boolean)) (by decide +kernel) rfl ?_
  intro p e s m args below meth c s₁ B hml0 hv
  obtain ⟨rfl, E, hM⟩ := hv
  have F : gF p s m meth c cX8_areLoops RX8 15 (some .boolean) := gF_of B hml0
  obtain ⟨hx, hb, hml, hown, hlocks, hr⟩ := id F
  have hS : va_S (hA b) s.heap s.heap [] := va_S.rf
  have hl := lv_entry ([.ref (la 0 0)]) (n := 15) (Nat.le_of_ble_eq_true rfl)
  rw [lg_entry_eq]
  generalize (lg_sl ([.ref (la 0 0)]) ++ List.replicate (15 - (lg_sl ([.ref (la 0 0)])).length) Slot.unset).toArray = ls at hl ⊢
  have hl : lv_has ls 15 [(0, .ref (la 0 0))] := hl
  unfold f_L_areLoops at h
  refine lv_aload_n hx hb dX8_areLoops_0 rfl (lv_at hl 0 rfl) ?_
  refine h_get hx hb hown E hM (hp_m (hY.c1 0 rfl)) gC_X8 0 (by decide) (v := .ref (ad 0)) rfl kw_1023 dX8_areLoops_1 ?_
  obtain ⟨q1, hq1, h⟩ := gbind_e h
  refine h_callC (As := []) (rest := []) hx hb (hml.trans hl.1.symm) hown E hM hS hy_X7_treeLines kw_1327 (c_X7_treeLines hq1) hk_0 dd_0 rfl rfl rfl (Nat.le_of_ble_eq_true rfl) ⟨(Nat.le_of_ble_eq_true rfl), (Nat.le_of_ble_eq_true rfl)⟩ ⟨(show _ ≤ 240 by omega), (show _ ≤ 960 by omega)⟩ dX8_areLoops_4 (fun H locs hM hS => ?_)
  refine lv_istore_n (lv' := [(1, .int q1.1), (0, .ref (la 0 0))]) hx hb dX8_areLoops_7 rfl hl (by decide) rfl (fun ls hl => ?_)
  refine lv_iconst (v := (0 : Int32)) hx hb dX8_areLoops_8 (by decide) ?_
  refine lv_istore_n (lv' := [(2, .int (0 : Int32)), (1, .int q1.1), (0, .ref (la 0 0))]) hx hb dX8_areLoops_9 rfl hl (by decide) rfl (fun ls hl => ?_)
  refine lv_iconst (v := (0 : Int32)) hx hb dX8_areLoops_10 (by decide) ?_
  refine lv_istore_n (lv' := [(3, .int (0 : Int32)), (2, .int (0 : Int32)), (1, .int q1.1), (0, .ref (la 0 0))]) hx hb dX8_areLoops_11 rfl hl (by decide) rfl (fun ls hl => ?_)
  obtain ⟨z58, h1, h⟩ := gbind_e h
  refine wl_L_areLoops_12 (CM := 0) (SM := 0) F E hY (fun _ _ h => h)  (by omega) (by omega) (r := z58) (fun q5 H locs ls e1 hM hS hl => ?_) 12 (0 : Int32) (0 : Int32) (by omega) (by omega) h1 hM hS (lv_sub hl [3, 2, 1, 0] rfl)
  replace e1 : z58 = q5 := e1
  rw [e1] at h
  refine lv_iload_n hx hb dX8_areLoops_43 rfl (lv_at hl 1 rfl) ?_
  obtain ⟨q6, hq6, h⟩ := gbind_e h
  refine h_callSC (As := [.int q1.1]) (rest := []) hx hb (hml.trans hl.1.symm) hown E hM hS hy_J6_bitCount_0f7a4 kw_1331 (c_J6_bitCount_0f7a4 hq6) rfl rfl (Nat.le_of_ble_eq_true rfl) ⟨(Nat.le_of_ble_eq_true rfl), (Nat.le_of_ble_eq_true rfl)⟩ ⟨(show _ ≤ 240 by omega), (show _ ≤ 960 by omega)⟩ dX8_areLoops_44 (fun H locs hM hS => ?_)
  refine lv_aload_n hx hb dX8_areLoops_47 rfl (lv_at hl 0 rfl) ?_
  refine h_get hx hb hown E hM (hp_m (hY.c1 0 rfl)) gC_X8 1 (by decide) (v := .int (gi ν 0 1)) rfl kw_1025 dX8_areLoops_48 ?_
  refine lv_aload_n hx hb dX8_areLoops_51 rfl (lv_at hl 0 rfl) ?_
  refine h_get hx hb hown E hM (hp_m (hY.c1 0 rfl)) gC_X8 0 (by decide) (v := .ref (ad 0)) rfl kw_1023 dX8_areLoops_52 ?_
  obtain ⟨q7, hq7, h⟩ := gbind_e h
  refine h_callC (As := []) (rest := [.int (gi ν 0 1), .int q6]) hx hb (hml.trans hl.1.symm) hown E hM hS hy_X7_partCount kw_1291 (c_X7_partCount hq7) hk_0 dd_0 rfl rfl rfl (Nat.le_of_ble_eq_true rfl) ⟨(Nat.le_of_ble_eq_true rfl), (Nat.le_of_ble_eq_true rfl)⟩ ⟨(show _ ≤ 240 by omega), (show _ ≤ 960 by omega)⟩ dX8_areLoops_55 (fun H locs hM hS => ?_)
  refine lv_isub hx hb dX8_areLoops_58 ?_
  refine lv_icmp_ne (tgt := 78) hx hb dX8_areLoops_59 (by decide) (fun c8 => ?_) (fun c8 => ?_)
  · replace h := gif_f c8 h
    refine lv_iconst (v := (0 : Int32)) hx hb dX8_areLoops_78 (by decide) ?_
    obtain rfl := Option.some.inj h
    exact h_zret (v := b2i false) hx hb hr hlocks (by omega) (by omega) (b2i_nar false) ⟨rfl, (fun _ _ h => h) _ _ (hW.drop hM)⟩ hS dX8_areLoops_79
  · replace h := gif_t c8 h
    refine lv_aload_n hx hb dX8_areLoops_62 rfl (lv_at hl 0 rfl) ?_
    refine h_get hx hb hown E hM (hp_m (hY.c1 0 rfl)) gC_X8 0 (by decide) (v := .ref (ad 0)) rfl kw_1023 dX8_areLoops_63 ?_
    obtain ⟨q9, hq9, h⟩ := gbind_e h
    refine h_callC (As := []) (rest := []) hx hb (hml.trans hl.1.symm) hown E hM hS hy_X7_loopCount kw_1337 (c_X7_loopCount hq9) hk_0 dd_0 rfl rfl rfl (Nat.le_of_ble_eq_true rfl) ⟨(Nat.le_of_ble_eq_true rfl), (Nat.le_of_ble_eq_true rfl)⟩ ⟨(show _ ≤ 240 by omega), (show _ ≤ 960 by omega)⟩ dX8_areLoops_66 (fun H locs hM hS => ?_)
    refine lv_iload_n hx hb dX8_areLoops_69 rfl (lv_at hl 2 rfl) ?_
    refine lv_iload_n hx hb dX8_areLoops_70 rfl (lv_at hl 1 rfl) ?_
    obtain ⟨q10, hq10, h⟩ := gbind_e h
    refine h_callSC (As := [.int q1.1]) (rest := [.int q5, .int q9.1]) hx hb (hml.trans hl.1.symm) hown E hM hS hy_J6_bitCount_0f7a4 kw_1331 (c_J6_bitCount_0f7a4 hq10) rfl rfl (Nat.le_of_ble_eq_true rfl) ⟨(Nat.le_of_ble_eq_true rfl), (Nat.le_of_ble_eq_true rfl)⟩ ⟨(show _ ≤ 240 by omega), (show _ ≤ 960 by omega)⟩ dX8_areLoops_71 (fun H locs hM hS => ?_)
    refine lv_isub hx hb dX8_areLoops_74 ?_
    refine lv_icmp_eq (tgt := 80) hx hb dX8_areLoops_75 (by decide) (fun c11 => ?_) (fun c11 => ?_)
    · replace h := gif_t c11 h
      refine lv_iconst (v := (0 : Int32)) hx hb dX8_areLoops_80 (by decide) ?_
      refine lv_istore_n (lv' := [(3, .int (0 : Int32)), (0, .ref (la 0 0)), (1, .int q1.1), (2, .int q5)]) hx hb dX8_areLoops_81 rfl hl (by decide) rfl (fun ls hl => ?_)
      refine lv_iconst (v := (0 : Int32)) hx hb dX8_areLoops_82 (by decide) ?_
      refine lv_istore (lv' := [(4, .int (0 : Int32)), (3, .int (0 : Int32)), (0, .ref (la 0 0)), (1, .int q1.1), (2, .int q5)]) hx hb dX8_areLoops_83 hl (by decide) rfl (fun ls hl => ?_)
      refine lv_iconst (v := (0 : Int32)) hx hb dX8_areLoops_85 (by decide) ?_
      refine lv_istore (lv' := [(5, .int (0 : Int32)), (4, .int (0 : Int32)), (3, .int (0 : Int32)), (0, .ref (la 0 0)), (1, .int q1.1), (2, .int q5)]) hx hb dX8_areLoops_86 hl (by decide) rfl (fun ls hl => ?_)
      obtain ⟨q52, h1, h⟩ := gbind_e h
      refine wl_L_areLoops_88 (CM := 240) (SM := 960) F E hY (fun _ _ h => h)  (by omega) (by omega) (r := q52) (fun t53 H locs ls e1 hM hS hl => ?_) (fun x ex => ?_) 12 (0 : Int32) (0 : Int32) (0 : Int32) q9.2 (by omega) (by omega) h1 hM hS (lv_sub hl [3, 4, 2, 1, 0] rfl)
      · replace h := gsum_l e1 h
        refine lv_iload_n hx hb dX8_areLoops_463 rfl (lv_at hl 1 rfl) ?_
        refine lv_aload_n hx hb dX8_areLoops_464 rfl (lv_at hl 0 rfl) ?_
        refine h_get hx hb hown E hM (hp_m (hY.c1 0 rfl)) gC_X8 0 (by decide) (v := .ref (ad 0)) rfl kw_1023 dX8_areLoops_465 ?_
        obtain ⟨q54, hq54, h⟩ := gbind_e h
        refine h_callC (As := []) (rest := [.int t53.1]) hx hb (hml.trans hl.1.symm) hown E hM hS hy_X7_loopCount kw_1337 (c_X7_loopCount hq54) hk_0 dd_0 rfl rfl rfl (Nat.le_of_ble_eq_true rfl) ⟨(Nat.le_of_ble_eq_true rfl), (Nat.le_of_ble_eq_true rfl)⟩ ⟨(show _ ≤ 240 by omega), (show _ ≤ 960 by omega)⟩ dX8_areLoops_468 (fun H locs hM hS => ?_)
        refine lv_icmp_ne (tgt := 490) hx hb dX8_areLoops_471 (by decide) (fun c55 => ?_) (fun c55 => ?_)
        · replace h := gif_f c55 h
          refine lv_iconst (v := (0 : Int32)) hx hb dX8_areLoops_490 (by decide) ?_
          obtain rfl := Option.some.inj h
          exact h_zret (v := b2i false) hx hb hr hlocks (by omega) (by omega) (b2i_nar false) ⟨rfl, (fun _ _ h => h) _ _ (hW.drop hM)⟩ hS dX8_areLoops_491
        · replace h := gif_t c55 h
          refine lv_aload_n hx hb dX8_areLoops_474 rfl (lv_at hl 0 rfl) ?_
          refine h_get hx hb hown E hM (hp_m (hY.c1 0 rfl)) gC_X8 0 (by decide) (v := .ref (ad 0)) rfl kw_1023 dX8_areLoops_475 ?_
          obtain ⟨q56, hq56, h⟩ := gbind_e h
          refine h_callC (As := []) (rest := []) hx hb (hml.trans hl.1.symm) hown E hM hS hy_X7_badLoops kw_1368 (c_X7_badLoops hq56) hk_0 dd_0 rfl rfl rfl (Nat.le_of_ble_eq_true rfl) ⟨(Nat.le_of_ble_eq_true rfl), (Nat.le_of_ble_eq_true rfl)⟩ ⟨(show _ ≤ 240 by omega), (show _ ≤ 960 by omega)⟩ dX8_areLoops_478 (fun H locs hM hS => ?_)
          refine lv_iload hx hb dX8_areLoops_481 (lv_at hl 2 rfl) ?_
          refine lv_icmp_ne (tgt := 490) hx hb dX8_areLoops_483 (by decide) (fun c57 => ?_) (fun c57 => ?_)
          · replace h := gif_f c57 h
            refine lv_iconst (v := (0 : Int32)) hx hb dX8_areLoops_490 (by decide) ?_
            obtain rfl := Option.some.inj h
            exact h_zret (v := b2i false) hx hb hr hlocks (by omega) (by omega) (b2i_nar false) ⟨rfl, (fun _ _ h => h) _ _ (hW.drop hM)⟩ hS dX8_areLoops_491
          · replace h := gif_t c57 h
            refine lv_iconst (v := (1 : Int32)) hx hb dX8_areLoops_486 (by decide) ?_
            refine lv_goto (tgt := 491) hx hb dX8_areLoops_487 (by decide) ?_
            obtain rfl := Option.some.inj h
            exact h_zret (v := b2i true) hx hb hr hlocks (by omega) (by omega) (b2i_nar true) ⟨rfl, (fun _ _ h => h) _ _ (hW.drop hM)⟩ hS dX8_areLoops_491
      · exact Option.some.inj (gsum_r ex h)
    · replace h := gif_f c11 h
      refine lv_iconst (v := (0 : Int32)) hx hb dX8_areLoops_78 (by decide) ?_
      obtain rfl := Option.some.inj h
      exact h_zret (v := b2i false) hx hb hr hlocks (by omega) (by omega) (b2i_nar false) ⟨rfl, (fun _ _ h => h) _ _ (hW.drop hM)⟩ hS dX8_areLoops_79

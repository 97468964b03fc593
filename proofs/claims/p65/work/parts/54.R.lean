theorem xy_X8_distances : gYV yX8_distances cX8_distances 6 (some (.array (.array .int))) 1 := ⟨kw_1234, kw_50, kw_1233, kw_31, ⟨by decide +kernel, by decide +kernel⟩, by decide +kernel⟩
theorem xy_X8_isWay : gYV yX8_isWay cX8_isWay 9 (some .boolean) 3 := ⟨kw_1270, kw_50, kw_1269, kw_35, ⟨by decide +kernel, by decide +kernel⟩, by decide +kernel⟩
theorem dX8_areWays_0 : decode cX8_areWays 0 = .ok (.aload_n 0, 1) := by decide +kernel
theorem dX8_areWays_1 : decode cX8_areWays 1 = .ok (.iconst (-1), 1) := by decide +kernel
theorem dX8_areWays_2 : decode cX8_areWays 2 = .ok (.invokevirtual 177, 3) := by decide +kernel
theorem dX8_areWays_5 : decode cX8_areWays 5 = .ok (.astore_n 1, 1) := by decide +kernel
theorem dX8_areWays_6 : decode cX8_areWays 6 = .ok (.iconst 0, 1) := by decide +kernel
theorem dX8_areWays_7 : decode cX8_areWays 7 = .ok (.istore_n 2, 1) := by decide +kernel
theorem dX8_areWays_8 : decode cX8_areWays 8 = .ok (.iconst 0, 1) := by decide +kernel
theorem dX8_areWays_9 : decode cX8_areWays 9 = .ok (.istore_n 3, 1) := by decide +kernel
theorem dX8_areWays_10 : decode cX8_areWays 10 = .ok (.iload_n 3, 1) := by decide +kernel
theorem dX8_areWays_11 : decode cX8_areWays 11 = .ok (.aload_n 0, 1) := by decide +kernel
theorem dX8_areWays_12 : decode cX8_areWays 12 = .ok (.getfield 43, 3) := by decide +kernel
theorem dX8_areWays_15 : decode cX8_areWays 15 = .ok (.if_icmp .ge 209, 3) := by decide +kernel
theorem dX8_areWays_18 : decode cX8_areWays 18 = .ok (.iload_n 3, 1) := by decide +kernel
theorem dX8_areWays_19 : decode cX8_areWays 19 = .ok (.istore 4, 2) := by decide +kernel
theorem dX8_areWays_21 : decode cX8_areWays 21 = .ok (.aload_n 0, 1) := by decide +kernel
theorem dX8_areWays_22 : decode cX8_areWays 22 = .ok (.getfield 43, 3) := by decide +kernel
theorem dX8_areWays_25 : decode cX8_areWays 25 = .ok (.iconst 1, 1) := by decide +kernel
theorem dX8_areWays_26 : decode cX8_areWays 26 = .ok (.isub, 1) := by decide +kernel
theorem dX8_areWays_27 : decode cX8_areWays 27 = .ok (.istore 5, 2) := by decide +kernel
theorem dX8_areWays_29 : decode cX8_areWays 29 = .ok (.iload 5, 2) := by decide +kernel
theorem dX8_areWays_31 : decode cX8_areWays 31 = .ok (.ifCond .lt 36, 3) := by decide +kernel
theorem dX8_areWays_34 : decode cX8_areWays 34 = .ok (.aload_n 1, 1) := by decide +kernel
theorem dX8_areWays_35 : decode cX8_areWays 35 = .ok (.iload_n 3, 1) := by decide +kernel
theorem dX8_areWays_36 : decode cX8_areWays 36 = .ok (.aaload, 1) := by decide +kernel
theorem dX8_areWays_37 : decode cX8_areWays 37 = .ok (.iload 5, 2) := by decide +kernel
theorem dX8_areWays_39 : decode cX8_areWays 39 = .ok (.iaload, 1) := by decide +kernel
theorem dX8_areWays_40 : decode cX8_areWays 40 = .ok (.ldc 156, 2) := by decide +kernel
theorem dX8_areWays_42 : decode cX8_areWays 42 = .ok (.if_icmp .ge 15, 3) := by decide +kernel
theorem dX8_areWays_45 : decode cX8_areWays 45 = .ok (.iload 5, 2) := by decide +kernel
theorem dX8_areWays_47 : decode cX8_areWays 47 = .ok (.iload 4, 2) := by decide +kernel
theorem dX8_areWays_49 : decode cX8_areWays 49 = .ok (.if_icmp .ge 8, 3) := by decide +kernel
theorem dX8_areWays_52 : decode cX8_areWays 52 = .ok (.iload 5, 2) := by decide +kernel
theorem dX8_areWays_54 : decode cX8_areWays 54 = .ok (.goto 5, 3) := by decide +kernel
theorem dX8_areWays_57 : decode cX8_areWays 57 = .ok (.iload 4, 2) := by decide +kernel
theorem dX8_areWays_59 : decode cX8_areWays 59 = .ok (.istore 4, 2) := by decide +kernel
theorem dX8_areWays_61 : decode cX8_areWays 61 = .ok (.iinc 5 (-1), 3) := by decide +kernel
theorem dX8_areWays_64 : decode cX8_areWays 64 = .ok (.goto (-35), 3) := by decide +kernel
theorem dX8_areWays_67 : decode cX8_areWays 67 = .ok (.iconst 0, 1) := by decide +kernel
theorem dX8_areWays_68 : decode cX8_areWays 68 = .ok (.istore 5, 2) := by decide +kernel
theorem dX8_areWays_70 : decode cX8_areWays 70 = .ok (.iload 5, 2) := by decide +kernel
theorem dX8_areWays_72 : decode cX8_areWays 72 = .ok (.aload_n 0, 1) := by decide +kernel
theorem dX8_areWays_73 : decode cX8_areWays 73 = .ok (.getfield 43, 3) := by decide +kernel
theorem dX8_areWays_76 : decode cX8_areWays 76 = .ok (.if_icmp .ge 34, 3) := by decide +kernel
theorem dX8_areWays_79 : decode cX8_areWays 79 = .ok (.aload_n 1, 1) := by decide +kernel
theorem dX8_areWays_80 : decode cX8_areWays 80 = .ok (.iload_n 3, 1) := by decide +kernel
theorem dX8_areWays_81 : decode cX8_areWays 81 = .ok (.aaload, 1) := by decide +kernel
theorem dX8_areWays_82 : decode cX8_areWays 82 = .ok (.iload 5, 2) := by decide +kernel
theorem dX8_areWays_84 : decode cX8_areWays 84 = .ok (.iaload, 1) := by decide +kernel
theorem dX8_areWays_85 : decode cX8_areWays 85 = .ok (.ldc 156, 2) := by decide +kernel
theorem dX8_areWays_87 : decode cX8_areWays 87 = .ok (.if_icmp .ge 13, 3) := by decide +kernel
theorem dX8_areWays_90 : decode cX8_areWays 90 = .ok (.iload 4, 2) := by decide +kernel
theorem dX8_areWays_92 : decode cX8_areWays 92 = .ok (.iload 5, 2) := by decide +kernel
theorem dX8_areWays_94 : decode cX8_areWays 94 = .ok (.invokestatic 159, 3) := by decide +kernel
theorem dX8_areWays_97 : decode cX8_areWays 97 = .ok (.goto 5, 3) := by decide +kernel
theorem dX8_areWays_100 : decode cX8_areWays 100 = .ok (.iload 4, 2) := by decide +kernel
theorem dX8_areWays_102 : decode cX8_areWays 102 = .ok (.istore 4, 2) := by decide +kernel
theorem dX8_areWays_104 : decode cX8_areWays 104 = .ok (.iinc 5 1, 3) := by decide +kernel
theorem dX8_areWays_107 : decode cX8_areWays 107 = .ok (.goto (-37), 3) := by decide +kernel
theorem dX8_areWays_110 : decode cX8_areWays 110 = .ok (.iload_n 2, 1) := by decide +kernel
theorem dX8_areWays_111 : decode cX8_areWays 111 = .ok (.iload 4, 2) := by decide +kernel
theorem dX8_areWays_113 : decode cX8_areWays 113 = .ok (.iload_n 3, 1) := by decide +kernel
theorem dX8_areWays_114 : decode cX8_areWays 114 = .ok (.if_icmp .ne 7, 3) := by decide +kernel
theorem dX8_areWays_117 : decode cX8_areWays 117 = .ok (.iconst 1, 1) := by decide +kernel
theorem dX8_areWays_118 : decode cX8_areWays 118 = .ok (.goto 4, 3) := by decide +kernel
theorem dX8_areWays_121 : decode cX8_areWays 121 = .ok (.iconst 0, 1) := by decide +kernel
theorem dX8_areWays_122 : decode cX8_areWays 122 = .ok (.iadd, 1) := by decide +kernel
theorem dX8_areWays_123 : decode cX8_areWays 123 = .ok (.istore_n 2, 1) := by decide +kernel
theorem dX8_areWays_124 : decode cX8_areWays 124 = .ok (.aload_n 0, 1) := by decide +kernel
theorem dX8_areWays_125 : decode cX8_areWays 125 = .ok (.getfield 12, 3) := by decide +kernel
theorem dX8_areWays_128 : decode cX8_areWays 128 = .ok (.iload_n 3, 1) := by decide +kernel
theorem dX8_areWays_129 : decode cX8_areWays 129 = .ok (.invokevirtual 181, 3) := by decide +kernel
theorem dX8_areWays_132 : decode cX8_areWays 132 = .ok (.iload 4, 2) := by decide +kernel
theorem dX8_areWays_134 : decode cX8_areWays 134 = .ok (.if_icmp .eq 5, 3) := by decide +kernel
theorem dX8_areWays_137 : decode cX8_areWays 137 = .ok (.iconst 0, 1) := by decide +kernel
theorem dX8_areWays_138 : decode cX8_areWays 138 = .ok (.ireturn, 1) := by decide +kernel
theorem dX8_areWays_139 : decode cX8_areWays 139 = .ok (.iconst 0, 1) := by decide +kernel
theorem dX8_areWays_140 : decode cX8_areWays 140 = .ok (.istore 5, 2) := by decide +kernel
theorem dX8_areWays_142 : decode cX8_areWays 142 = .ok (.iload 5, 2) := by decide +kernel
theorem dX8_areWays_144 : decode cX8_areWays 144 = .ok (.aload_n 0, 1) := by decide +kernel
theorem dX8_areWays_145 : decode cX8_areWays 145 = .ok (.getfield 43, 3) := by decide +kernel
theorem dX8_areWays_148 : decode cX8_areWays 148 = .ok (.if_icmp .ge 70, 3) := by decide +kernel
theorem dX8_areWays_151 : decode cX8_areWays 151 = .ok (.aload_n 1, 1) := by decide +kernel
theorem dX8_areWays_152 : decode cX8_areWays 152 = .ok (.iload_n 3, 1) := by decide +kernel
theorem dX8_areWays_153 : decode cX8_areWays 153 = .ok (.aaload, 1) := by decide +kernel
theorem dX8_areWays_154 : decode cX8_areWays 154 = .ok (.iload 5, 2) := by decide +kernel
theorem dX8_areWays_156 : decode cX8_areWays 156 = .ok (.iaload, 1) := by decide +kernel
theorem dX8_areWays_157 : decode cX8_areWays 157 = .ok (.ldc 156, 2) := by decide +kernel
theorem dX8_areWays_159 : decode cX8_areWays 159 = .ok (.if_icmp .lt 7, 3) := by decide +kernel
theorem dX8_areWays_162 : decode cX8_areWays 162 = .ok (.iconst 1, 1) := by decide +kernel
theorem dX8_areWays_163 : decode cX8_areWays 163 = .ok (.goto 4, 3) := by decide +kernel
theorem dX8_areWays_166 : decode cX8_areWays 166 = .ok (.iconst 0, 1) := by decide +kernel
theorem dX8_areWays_167 : decode cX8_areWays 167 = .ok (.istore 6, 2) := by decide +kernel
theorem dX8_areWays_169 : decode cX8_areWays 169 = .ok (.aload_n 0, 1) := by decide +kernel
theorem dX8_areWays_170 : decode cX8_areWays 170 = .ok (.getfield 12, 3) := by decide +kernel
theorem dX8_areWays_173 : decode cX8_areWays 173 = .ok (.iload_n 3, 1) := by decide +kernel
theorem dX8_areWays_174 : decode cX8_areWays 174 = .ok (.iload 5, 2) := by decide +kernel
theorem dX8_areWays_176 : decode cX8_areWays 176 = .ok (.invokevirtual 184, 3) := by decide +kernel
theorem dX8_areWays_179 : decode cX8_areWays 179 = .ok (.iload 6, 2) := by decide +kernel
theorem dX8_areWays_181 : decode cX8_areWays 181 = .ok (.ifCond .eq 7, 3) := by decide +kernel
theorem dX8_areWays_184 : decode cX8_areWays 184 = .ok (.iconst (-1), 1) := by decide +kernel
theorem dX8_areWays_185 : decode cX8_areWays 185 = .ok (.goto 9, 3) := by decide +kernel
theorem dX8_areWays_188 : decode cX8_areWays 188 = .ok (.aload_n 1, 1) := by decide +kernel
theorem dX8_areWays_189 : decode cX8_areWays 189 = .ok (.iload_n 3, 1) := by decide +kernel
theorem dX8_areWays_190 : decode cX8_areWays 190 = .ok (.aaload, 1) := by decide +kernel
theorem dX8_areWays_191 : decode cX8_areWays 191 = .ok (.iload 5, 2) := by decide +kernel
theorem dX8_areWays_193 : decode cX8_areWays 193 = .ok (.iaload, 1) := by decide +kernel
theorem dX8_areWays_194 : decode cX8_areWays 194 = .ok (.if_icmp .eq 5, 3) := by decide +kernel
theorem dX8_areWays_197 : decode cX8_areWays 197 = .ok (.iconst 0, 1) := by decide +kernel
theorem dX8_areWays_198 : decode cX8_areWays 198 = .ok (.ireturn, 1) := by decide +kernel
theorem dX8_areWays_199 : decode cX8_areWays 199 = .ok (.aload_n 0, 1) := by decide +kernel
theorem dX8_areWays_200 : decode cX8_areWays 200 = .ok (.iload_n 3, 1) := by decide +kernel
theorem dX8_areWays_201 : decode cX8_areWays 201 = .ok (.iload 5, 2) := by decide +kernel
theorem dX8_areWays_203 : decode cX8_areWays 203 = .ok (.aload_n 1, 1) := by decide +kernel
theorem dX8_areWays_204 : decode cX8_areWays 204 = .ok (.invokevirtual 187, 3) := by decide +kernel
theorem dX8_areWays_207 : decode cX8_areWays 207 = .ok (.ifCond .ne 5, 3) := by decide +kernel
theorem dX8_areWays_210 : decode cX8_areWays 210 = .ok (.iconst 0, 1) := by decide +kernel
theorem dX8_areWays_211 : decode cX8_areWays 211 = .ok (.ireturn, 1) := by decide +kernel
theorem dX8_areWays_212 : decode cX8_areWays 212 = .ok (.iinc 5 1, 3) := by decide +kernel
theorem dX8_areWays_215 : decode cX8_areWays 215 = .ok (.goto (-73), 3) := by decide +kernel
theorem dX8_areWays_218 : decode cX8_areWays 218 = .ok (.iinc 3 1, 3) := by decide +kernel
theorem dX8_areWays_221 : decode cX8_areWays 221 = .ok (.goto (-211), 3) := by decide +kernel
theorem dX8_areWays_224 : decode cX8_areWays 224 = .ok (.iconst 0, 1) := by decide +kernel
theorem dX8_areWays_225 : decode cX8_areWays 225 = .ok (.istore_n 3, 1) := by decide +kernel
theorem dX8_areWays_226 : decode cX8_areWays 226 = .ok (.iconst 0, 1) := by decide +kernel
theorem dX8_areWays_227 : decode cX8_areWays 227 = .ok (.istore 4, 2) := by decide +kernel
theorem dX8_areWays_229 : decode cX8_areWays 229 = .ok (.iload 4, 2) := by decide +kernel
theorem dX8_areWays_231 : decode cX8_areWays 231 = .ok (.aload_n 0, 1) := by decide +kernel
theorem dX8_areWays_232 : decode cX8_areWays 232 = .ok (.getfield 47, 3) := by decide +kernel
theorem dX8_areWays_235 : decode cX8_areWays 235 = .ok (.if_icmp .ge 61, 3) := by decide +kernel
theorem dX8_areWays_238 : decode cX8_areWays 238 = .ok (.iload_n 3, 1) := by decide +kernel
theorem dX8_areWays_239 : decode cX8_areWays 239 = .ok (.aload_n 0, 1) := by decide +kernel
theorem dX8_areWays_240 : decode cX8_areWays 240 = .ok (.getfield 58, 3) := by decide +kernel
theorem dX8_areWays_243 : decode cX8_areWays 243 = .ok (.iload 4, 2) := by decide +kernel
theorem dX8_areWays_245 : decode cX8_areWays 245 = .ok (.baload, 1) := by decide +kernel
theorem dX8_areWays_246 : decode cX8_areWays 246 = .ok (.ifCond .eq 41, 3) := by decide +kernel
theorem dX8_areWays_249 : decode cX8_areWays 249 = .ok (.aload_n 0, 1) := by decide +kernel
theorem dX8_areWays_250 : decode cX8_areWays 250 = .ok (.iload 4, 2) := by decide +kernel
theorem dX8_areWays_252 : decode cX8_areWays 252 = .ok (.invokevirtual 177, 3) := by decide +kernel
theorem dX8_areWays_255 : decode cX8_areWays 255 = .ok (.aload_n 0, 1) := by decide +kernel
theorem dX8_areWays_256 : decode cX8_areWays 256 = .ok (.getfield 52, 3) := by decide +kernel
theorem dX8_areWays_259 : decode cX8_areWays 259 = .ok (.iload 4, 2) := by decide +kernel
theorem dX8_areWays_261 : decode cX8_areWays 261 = .ok (.aaload, 1) := by decide +kernel
theorem dX8_areWays_262 : decode cX8_areWays 262 = .ok (.iconst 0, 1) := by decide +kernel
theorem dX8_areWays_263 : decode cX8_areWays 263 = .ok (.iaload, 1) := by decide +kernel
theorem dX8_areWays_264 : decode cX8_areWays 264 = .ok (.aaload, 1) := by decide +kernel
theorem dX8_areWays_265 : decode cX8_areWays 265 = .ok (.aload_n 0, 1) := by decide +kernel
theorem dX8_areWays_266 : decode cX8_areWays 266 = .ok (.getfield 52, 3) := by decide +kernel
theorem dX8_areWays_269 : decode cX8_areWays 269 = .ok (.iload 4, 2) := by decide +kernel
theorem dX8_areWays_271 : decode cX8_areWays 271 = .ok (.aaload, 1) := by decide +kernel
theorem dX8_areWays_272 : decode cX8_areWays 272 = .ok (.iconst 1, 1) := by decide +kernel
theorem dX8_areWays_273 : decode cX8_areWays 273 = .ok (.iaload, 1) := by decide +kernel
theorem dX8_areWays_274 : decode cX8_areWays 274 = .ok (.iaload, 1) := by decide +kernel
theorem dX8_areWays_275 : decode cX8_areWays 275 = .ok (.ldc 156, 2) := by decide +kernel
theorem dX8_areWays_277 : decode cX8_areWays 277 = .ok (.if_icmp .lt 10, 3) := by decide +kernel
theorem dX8_areWays_280 : decode cX8_areWays 280 = .ok (.iconst 1, 1) := by decide +kernel
theorem dX8_areWays_281 : decode cX8_areWays 281 = .ok (.iload 4, 2) := by decide +kernel
theorem dX8_areWays_283 : decode cX8_areWays 283 = .ok (.ishl, 1) := by decide +kernel
theorem dX8_areWays_284 : decode cX8_areWays 284 = .ok (.goto 4, 3) := by decide +kernel
theorem dX8_areWays_287 : decode cX8_areWays 287 = .ok (.iconst 0, 1) := by decide +kernel
theorem dX8_areWays_288 : decode cX8_areWays 288 = .ok (.ior, 1) := by decide +kernel
theorem dX8_areWays_289 : decode cX8_areWays 289 = .ok (.istore_n 3, 1) := by decide +kernel
theorem dX8_areWays_290 : decode cX8_areWays 290 = .ok (.iinc 4 1, 3) := by decide +kernel
theorem dX8_areWays_293 : decode cX8_areWays 293 = .ok (.goto (-64), 3) := by decide +kernel
theorem dX8_areWays_296 : decode cX8_areWays 296 = .ok (.aload_n 0, 1) := by decide +kernel
theorem dX8_areWays_297 : decode cX8_areWays 297 = .ok (.getfield 12, 3) := by decide +kernel
theorem dX8_areWays_300 : decode cX8_areWays 300 = .ok (.invokevirtual 191, 3) := by decide +kernel
theorem dX8_areWays_303 : decode cX8_areWays 303 = .ok (.iload_n 2, 1) := by decide +kernel
theorem dX8_areWays_304 : decode cX8_areWays 304 = .ok (.if_icmp .ne 18, 3) := by decide +kernel
theorem dX8_areWays_307 : decode cX8_areWays 307 = .ok (.aload_n 0, 1) := by decide +kernel
theorem dX8_areWays_308 : decode cX8_areWays 308 = .ok (.getfield 12, 3) := by decide +kernel
theorem dX8_areWays_311 : decode cX8_areWays 311 = .ok (.invokevirtual 194, 3) := by decide +kernel
theorem dX8_areWays_314 : decode cX8_areWays 314 = .ok (.iload_n 3, 1) := by decide +kernel
theorem dX8_areWays_315 : decode cX8_areWays 315 = .ok (.if_icmp .ne 7, 3) := by decide +kernel
theorem dX8_areWays_318 : decode cX8_areWays 318 = .ok (.iconst 1, 1) := by decide +kernel
theorem dX8_areWays_319 : decode cX8_areWays 319 = .ok (.goto 4, 3) := by decide +kernel
theorem dX8_areWays_322 : decode cX8_areWays 322 = .ok (.iconst 0, 1) := by decide +kernel
theorem dX8_areWays_323 : decode cX8_areWays 323 = .ok (.ireturn, 1) := by decide +kernel
def b_L_areWays_29 (x2 : Int32) (x3 : Int32) (q1 : Nat → Nat → Int32) (x4 : Int32) (x5 : Int32) (ν μ : gM) : Option ((Int32 × Int32) ⊕ (Int32)) :=
  if (x5 < 0) then some (.inr x4) else gchk (gIn x3 (lPt ν)) (gchk (gIn x5 (lPt ν)) (if ((1000000 : Int32) ≤ (q1 x3.toNatClampNeg x5.toNatClampNeg)) then some (.inl (x4, (x5 + (-1 : Int32)))) else if (x4 ≤ x5) then some (.inl (x4, (x5 + (-1 : Int32)))) else some (.inl (x5, (x5 + (-1 : Int32))))))
set_option maxHeartbeats 4000000 in
set_option maxRecDepth 100000 in
theorem wb_L_areWays_29 {p : Program} {l : Launch} {e : Env} {s : State} {m : MethodId} {args : Array Value} {below : List Frame} {meth : Method} {c : Code} {D : va_G} {cy : Nat → ClassId} {ad : Nat → Nat} {b : Nat} {la : Nat → Nat → Nat} {ν : gM} {P P0 : va_W} {x2 : Int32} {x3 : Int32} {q1 : Nat → Nat → Int32} {x4 : Int32} {x5 : Int32} {μ : gM}  {o : (Int32 × Int32) ⊕ (Int32)} {RES : (Bool) × gM} {cells slots C0 S0 CM SM : Nat} (h : b_L_areWays_29 x2 x3 q1 x4 x5 ν μ = some o) (F : gF p s m meth c cX8_areWays RX8 7 (some .boolean)) (E : hE l D cy ad b s) (hY : lY cy ad la ν P) (hPd : ∀ (μ : gM) (H : Heap), hW D cy ad b μ P [] H → hW D cy ad b μ P0 [] H) {da0 : Nat} {dr0 : Nat → Nat} (hD0 : ∀ x ∈ hmat cy da0 dr0 (lPt ν) q1, x ∈ P) (hc : cells + 0 ≤ C0) (hs : slots + 0 ≤ S0) (hcm : C0 ≤ CM) (hsm : S0 ≤ SM) (hcr : CM ≤ 17769) (hsr : SM ≤ 71544) (kc : ∀ (t : Int32 × Int32) {H : Heap} {locs : List Loc} {ls : Array Slot}, o = .inl t → hW D cy ad b μ P [] H → va_S (hA b) s.heap H locs → lv_has ls 7 [(0, .ref (la 0 0)), (1, .ref da0), (2, .int x2), (3, .int x3), (4, .int t.1), (5, .int t.2)] → W p l e ({ frames := 7, cells := 17769, slots := 71544, locals := 166 } : Room) s m args below meth c H locs C0 S0 (MQ below (hQ b (fun rv H => rv = some (.int (b2i RES.1)) ∧ hW D cy ad b RES.2 P0 [] H)) args s 17769 71544 (hA b)) (F0 m 29 ls [])) (kx : ∀ (t : Int32) {H : Heap} {locs : List Loc} {ls : Array Slot}, o = .inr t → hW D cy ad b μ P [] H → va_S (hA b) s.heap H locs → lv_has ls 7 [(0, .ref (la 0 0)), (1, .ref da0), (2, .int x2), (3, .int x3), (4, .int t)] → W p l e ({ frames := 7, cells := 17769, slots := 71544, locals := 166 } : Room) s m args below meth c H locs CM SM (MQ below (hQ b (fun rv H => rv = some (.int (b2i RES.1)) ∧ hW D cy ad b RES.2 P0 [] H)) args s 17769 71544 (hA b)) (F0 m 67 ls []))  {H : Heap} {locs : List Loc} {ls : Array Slot} (hM : hW D cy ad b μ P [] H) (hS : va_S (hA b) s.heap H locs) (hl : lv_has ls 7 [(0, .ref (la 0 0)), (1, .ref da0), (2, .int x2), (3, .int x3), (4, .int x4), (5, .int x5)]) : W p l e ({ frames := 7, cells := 17769, slots := 71544, locals := 166 } : Room) s m args below meth c H locs cells slots (MQ below (hQ b (fun rv H => rv = some (.int (b2i RES.1)) ∧ hW D cy ad b RES.2 P0 [] H)) args s 17769 71544 (hA b)) (F0 m 29 ls []) := by
  obtain ⟨hx, hb, hml, hown, hlocks, hr⟩ := id F
  unfold b_L_areWays_29 at h
  refine lv_iload hx hb dX8_areWays_29 (lv_at hl 5 rfl) ?_
  refine lv_if_lt (tgt := 67) hx hb dX8_areWays_31 (by decide) (fun c5 => ?_) (fun c5 => ?_)
  · replace h := gif_t c5 h
    refine W.widen (k := CM) (n := SM) (by omega) (by omega) ?_
    exact kx _ (Option.some.inj h).symm hM hS (lv_sub hl [0, 1, 2, 3, 4] rfl)
  · replace h := gif_f c5 h
    refine lv_aload_n hx hb dX8_areWays_34 rfl (lv_at hl 1 rfl) ?_
    refine lv_iload_n hx hb dX8_areWays_35 rfl (lv_at hl 3 rfl) ?_
    obtain ⟨c6, h⟩ := gchk_e h
    refine h_rald hx hb E hM (hp_m (hD0 _ hmat_o)) c6 (v := .ref (dr0 x3.toNatClampNeg)) (x_lrf c6) dX8_areWays_36 ?_
    refine lv_iload hx hb dX8_areWays_37 (lv_at hl 5 rfl) ?_
    obtain ⟨c7, h⟩ := gchk_e h
    refine l_iald hx hb E hM (hp_m (hD0 _ (hmat_r c6.2))) c7 (v := (q1 x3.toNatClampNeg x5.toNatClampNeg)) rfl dX8_areWays_39 ?_
    refine lv_ldc hx hb hown (v := (1000000 : Int32)) (E.kw kw_1211) dX8_areWays_40 ?_
    refine lv_icmp_ge (tgt := 57) hx hb dX8_areWays_42 (by decide) (fun c8 => ?_) (fun c8 => ?_)
    · replace h := gif_t c8 h
      refine lv_iload hx hb dX8_areWays_57 (lv_at hl 4 rfl) ?_
      refine lv_istore (lv' := [(4, .int x4), (0, .ref (la 0 0)), (1, .ref da0), (2, .int x2), (3, .int x3), (5, .int x5)]) hx hb dX8_areWays_59 hl (by decide) rfl (fun ls hl => ?_)
      refine lv_iinc (v := (x5 + (-1 : Int32))) (lv' := [(5, .int (x5 + (-1 : Int32))), (4, .int x4), (0, .ref (la 0 0)), (1, .ref da0), (2, .int x2), (3, .int x3)]) hx hb dX8_areWays_61 hl (k := 5) rfl rfl (by decide) rfl (fun ls hl => ?_)
      refine lv_goto (tgt := 29) hx hb dX8_areWays_64 (by decide) ?_
      refine W.widen (k := C0) (n := S0) (by omega) (by omega) ?_
      exact kc _ (Option.some.inj h).symm hM hS (lv_sub hl [2, 3, 4, 5, 1, 0] rfl)
    · replace h := gif_f c8 h
      refine lv_iload hx hb dX8_areWays_45 (lv_at hl 5 rfl) ?_
      refine lv_iload hx hb dX8_areWays_47 (lv_at hl 4 rfl) ?_
      refine lv_icmp_ge (tgt := 57) hx hb dX8_areWays_49 (by decide) (fun c9 => ?_) (fun c9 => ?_)
      · replace h := gif_t c9 h
        refine lv_iload hx hb dX8_areWays_57 (lv_at hl 4 rfl) ?_
        refine lv_istore (lv' := [(4, .int x4), (0, .ref (la 0 0)), (1, .ref da0), (2, .int x2), (3, .int x3), (5, .int x5)]) hx hb dX8_areWays_59 hl (by decide) rfl (fun ls hl => ?_)
        refine lv_iinc (v := (x5 + (-1 : Int32))) (lv' := [(5, .int (x5 + (-1 : Int32))), (4, .int x4), (0, .ref (la 0 0)), (1, .ref da0), (2, .int x2), (3, .int x3)]) hx hb dX8_areWays_61 hl (k := 5) rfl rfl (by decide) rfl (fun ls hl => ?_)
        refine lv_goto (tgt := 29) hx hb dX8_areWays_64 (by decide) ?_
        refine W.widen (k := C0) (n := S0) (by omega) (by omega) ?_
        exact kc _ (Option.some.inj h).symm hM hS (lv_sub hl [2, 3, 4, 5, 1, 0] rfl)
      · replace h := gif_f c9 h
        refine lv_iload hx hb dX8_areWays_52 (lv_at hl 5 rfl) ?_
        refine lv_goto (tgt := 59) hx hb dX8_areWays_54 (by decide) ?_
        refine lv_istore (lv' := [(4, .int x5), (0, .ref (la 0 0)), (1, .ref da0), (2, .int x2), (3, .int x3), (5, .int x5)]) hx hb dX8_areWays_59 hl (by decide) rfl (fun ls hl => ?_)
        refine lv_iinc (v := (x5 + (-1 : Int32))) (lv' := [(5, .int (x5 + (-1 : Int32))), (4, .int x5), (0, .ref (la 0 0)), (1, .ref da0), (2, .int x2), (3, .int x3)]) hx hb dX8_areWays_61 hl (k := 5) rfl rfl (by decide) rfl (fun ls hl => ?_)
        refine lv_goto (tgt := 29) hx hb dX8_areWays_64 (by decide) ?_
        refine W.widen (k := C0) (n := S0) (by omega) (by omega) ?_
        exact kc _ (Option.some.inj h).symm hM hS (lv_sub hl [2, 3, 4, 5, 1, 0] rfl)
set_option maxHeartbeats 4000000 in
theorem wl_L_areWays_29 {p : Program} {l : Launch} {e : Env} {s : State} {m : MethodId} {args : Array Value} {below : List Frame} {meth : Method} {c : Code} {D : va_G} {cy : Nat → ClassId} {ad : Nat → Nat} {b : Nat} {la : Nat → Nat → Nat} {ν : gM} {P P0 : va_W} {x2 : Int32} {x3 : Int32} {q1 : Nat → Nat → Int32} {μ : gM}  {r : Int32} {RES : (Bool) × gM} {CM SM : Nat} (F : gF p s m meth c cX8_areWays RX8 7 (some .boolean)) (E : hE l D cy ad b s) (hY : lY cy ad la ν P) (hPd : ∀ (μ : gM) (H : Heap), hW D cy ad b μ P [] H → hW D cy ad b μ P0 [] H) {da0 : Nat} {dr0 : Nat → Nat} (hD0 : ∀ x ∈ hmat cy da0 dr0 (lPt ν) q1, x ∈ P) (hcr : CM ≤ 17769) (hsr : SM ≤ 71544) (kx : ∀ (t : Int32) {H : Heap} {locs : List Loc} {ls : Array Slot}, r = t → hW D cy ad b μ P [] H → va_S (hA b) s.heap H locs → lv_has ls 7 [(0, .ref (la 0 0)), (1, .ref da0), (2, .int x2), (3, .int x3), (4, .int t)] → W p l e ({ frames := 7, cells := 17769, slots := 71544, locals := 166 } : Room) s m args below meth c H locs CM SM (MQ below (hQ b (fun rv H => rv = some (.int (b2i RES.1)) ∧ hW D cy ad b RES.2 P0 [] H)) args s 17769 71544 (hA b)) (F0 m 67 ls []))  : ∀ (n : Nat) (x4 : Int32) (x5 : Int32)  {cells slots : Nat}, cells + n * 0 ≤ CM → slots + n * 0 ≤ SM → gloop (fun t => b_L_areWays_29 x2 x3 q1 t.1 t.2 ν μ) n (x4, x5) = some r → ∀ {H : Heap} {locs : List Loc} {ls : Array Slot}, hW D cy ad b μ P [] H → va_S (hA b) s.heap H locs → lv_has ls 7 [(0, .ref (la 0 0)), (1, .ref da0), (2, .int x2), (3, .int x3), (4, .int x4), (5, .int x5)] → W p l e ({ frames := 7, cells := 17769, slots := 71544, locals := 166 } : Room) s m args below meth c H locs cells slots (MQ below (hQ b (fun rv H => rv = some (.int (b2i RES.1)) ∧ hW D cy ad b RES.2 P0 [] H)) args s 17769 71544 (hA b)) (F0 m 29 ls []) := by
  intro n
  induction n with
  | zero =>
    intro x4 x5 cells slots hc hs h
    exact (gloop_0 h).elim
  | succ n ih =>
    intro x4 x5 cells slots hc hs h H locs ls hM hS hl
    obtain ⟨o, h0, hcc, hq⟩ := gloop_s h
    have h1 : b_L_areWays_29 x2 x3 q1 x4 x5 ν μ = some o := h0
    exact wb_L_areWays_29 (C0 := cells + 0) (S0 := slots + 0) (CM := CM) (SM := SM) h1 F E hY hPd hD0 (by omega) (by omega) (by omega) (by omega) hcr hsr (fun t H locs ls ho hM hS hl => ih t.1 t.2 (by omega) (by omega) (hcc t ho) hM hS hl) (fun t H locs ls ho hM hS hl => kx t (hq _ ho).symm hM hS hl) hM hS hl
def b_L_areWays_70 (x2 : Int32) (x3 : Int32) (q1 : Nat → Nat → Int32) (x4 : Int32) (x5 : Int32) (ν μ : gM) : Option ((Int32 × Int32) ⊕ (Int32)) :=
  if ((gi ν 0 1) ≤ x5) then some (.inr x4) else gchk (gIn x3 (lPt ν)) (gchk (gIn x5 (lPt ν)) (if ((1000000 : Int32) ≤ (q1 x3.toNatClampNeg x5.toNatClampNeg)) then some (.inl (x4, (x5 + (1 : Int32)))) else some (.inl ((imin x4 x5), (x5 + (1 : Int32))))))
set_option maxHeartbeats 4000000 in
set_option maxRecDepth 100000 in
theorem wb_L_areWays_70 {p : Program} {l : Launch} {e : Env} {s : State} {m : MethodId} {args : Array Value} {below : List Frame} {meth : Method} {c : Code} {D : va_G} {cy : Nat → ClassId} {ad : Nat → Nat} {b : Nat} {la : Nat → Nat → Nat} {ν : gM} {P P0 : va_W} {x2 : Int32} {x3 : Int32} {q1 : Nat → Nat → Int32} {x4 : Int32} {x5 : Int32} {μ : gM}  {o : (Int32 × Int32) ⊕ (Int32)} {RES : (Bool) × gM} {cells slots C0 S0 CM SM : Nat} (h : b_L_areWays_70 x2 x3 q1 x4 x5 ν μ = some o) (F : gF p s m meth c cX8_areWays RX8 7 (some .boolean)) (E : hE l D cy ad b s) (hY : lY cy ad la ν P) (hPd : ∀ (μ : gM) (H : Heap), hW D cy ad b μ P [] H → hW D cy ad b μ P0 [] H) {da0 : Nat} {dr0 : Nat → Nat} (hD0 : ∀ x ∈ hmat cy da0 dr0 (lPt ν) q1, x ∈ P) (hc : cells + 0 ≤ C0) (hs : slots + 0 ≤ S0) (hcm : C0 ≤ CM) (hsm : S0 ≤ SM) (hcr : CM ≤ 17769) (hsr : SM ≤ 71544) (kc : ∀ (t : Int32 × Int32) {H : Heap} {locs : List Loc} {ls : Array Slot}, o = .inl t → hW D cy ad b μ P [] H → va_S (hA b) s.heap H locs → lv_has ls 7 [(0, .ref (la 0 0)), (1, .ref da0), (2, .int x2), (3, .int x3), (4, .int t.1), (5, .int t.2)] → W p l e ({ frames := 7, cells := 17769, slots := 71544, locals := 166 } : Room) s m args below meth c H locs C0 S0 (MQ below (hQ b (fun rv H => rv = some (.int (b2i RES.1)) ∧ hW D cy ad b RES.2 P0 [] H)) args s 17769 71544 (hA b)) (F0 m 70 ls [])) (kx : ∀ (t : Int32) {H : Heap} {locs : List Loc} {ls : Array Slot}, o = .inr t → hW D cy ad b μ P [] H → va_S (hA b) s.heap H locs → lv_has ls 7 [(0, .ref (la 0 0)), (1, .ref da0), (2, .int x2), (3, .int x3), (4, .int t)] → W p l e ({ frames := 7, cells := 17769, slots := 71544, locals := 166 } : Room) s m args below meth c H locs CM SM (MQ below (hQ b (fun rv H => rv = some (.int (b2i RES.1)) ∧ hW D cy ad b RES.2 P0 [] H)) args s 17769 71544 (hA b)) (F0 m 110 ls []))  {H : Heap} {locs : List Loc} {ls : Array Slot} (hM : hW D cy ad b μ P [] H) (hS : va_S (hA b) s.heap H locs) (hl : lv_has ls 7 [(0, .ref (la 0 0)), (1, .ref da0), (2, .int x2), (3, .int x3), (4, .int x4), (5, .int x5)]) : W p l e ({ frames := 7, cells := 17769, slots := 71544, locals := 166 } : Room) s m args below meth c H locs cells slots (MQ below (hQ b (fun rv H => rv = some (.int (b2i RES.1)) ∧ hW D cy ad b RES.2 P0 [] H)) args s 17769 71544 (hA b)) (F0 m 70 ls []) := by
  obtain ⟨hx, hb, hml, hown, hlocks, hr⟩ := id F
  unfold b_L_areWays_70 at h
  refine lv_iload hx hb dX8_areWays_70 (lv_at hl 5 rfl) ?_
  refine lv_aload_n hx hb dX8_areWays_72 rfl (lv_at hl 0 rfl) ?_
  refine h_get hx hb hown E hM (hp_m (hY.c1 0 rfl)) gC_X8 1 (by decide) (v := .int (gi ν 0 1)) rfl kw_1025 dX8_areWays_73 ?_
  refine lv_icmp_ge (tgt := 110) hx hb dX8_areWays_76 (by decide) (fun c11 => ?_) (fun c11 => ?_)
  · replace h := gif_t c11 h
    refine W.widen (k := CM) (n := SM) (by omega) (by omega) ?_
    exact kx _ (Option.some.inj h).symm hM hS (lv_sub hl [0, 1, 2, 3, 4] rfl)
  · replace h := gif_f c11 h
    refine lv_aload_n hx hb dX8_areWays_79 rfl (lv_at hl 1 rfl) ?_
    refine lv_iload_n hx hb dX8_areWays_80 rfl (lv_at hl 3 rfl) ?_
    obtain ⟨c12, h⟩ := gchk_e h
    refine h_rald hx hb E hM (hp_m (hD0 _ hmat_o)) c12 (v := .ref (dr0 x3.toNatClampNeg)) (x_lrf c12) dX8_areWays_81 ?_
    refine lv_iload hx hb dX8_areWays_82 (lv_at hl 5 rfl) ?_
    obtain ⟨c13, h⟩ := gchk_e h
    refine l_iald hx hb E hM (hp_m (hD0 _ (hmat_r c12.2))) c13 (v := (q1 x3.toNatClampNeg x5.toNatClampNeg)) rfl dX8_areWays_84 ?_
    refine lv_ldc hx hb hown (v := (1000000 : Int32)) (E.kw kw_1211) dX8_areWays_85 ?_
    refine lv_icmp_ge (tgt := 100) hx hb dX8_areWays_87 (by decide) (fun c14 => ?_) (fun c14 => ?_)
    · replace h := gif_t c14 h
      refine lv_iload hx hb dX8_areWays_100 (lv_at hl 4 rfl) ?_
      refine lv_istore (lv' := [(4, .int x4), (0, .ref (la 0 0)), (1, .ref da0), (2, .int x2), (3, .int x3), (5, .int x5)]) hx hb dX8_areWays_102 hl (by decide) rfl (fun ls hl => ?_)
      refine lv_iinc (v := (x5 + (1 : Int32))) (lv' := [(5, .int (x5 + (1 : Int32))), (4, .int x4), (0, .ref (la 0 0)), (1, .ref da0), (2, .int x2), (3, .int x3)]) hx hb dX8_areWays_104 hl (k := 5) rfl rfl (by decide) rfl (fun ls hl => ?_)
      refine lv_goto (tgt := 70) hx hb dX8_areWays_107 (by decide) ?_
      refine W.widen (k := C0) (n := S0) (by omega) (by omega) ?_
      exact kc _ (Option.some.inj h).symm hM hS (lv_sub hl [2, 3, 4, 5, 1, 0] rfl)
    · replace h := gif_f c14 h
      refine lv_iload hx hb dX8_areWays_90 (lv_at hl 4 rfl) ?_
      refine lv_iload hx hb dX8_areWays_92 (lv_at hl 5 rfl) ?_
      refine va_mmin hx hb (hml.trans hl.1.symm) hown (E.kw kw_1235) (E.kw kw_622) (E.kw kw_67) (E.kw kw_623) (Nat.le_of_ble_eq_true rfl) (Nat.le_of_ble_eq_true rfl) (show _ ≤ 17769 by omega) (show _ ≤ 71544 by omega) dX8_areWays_94 ?_
      refine lv_goto (tgt := 102) hx hb dX8_areWays_97 (by decide) ?_
      refine lv_istore (lv' := [(4, .int (imin x4 x5)), (0, .ref (la 0 0)), (1, .ref da0), (2, .int x2), (3, .int x3), (5, .int x5)]) hx hb dX8_areWays_102 hl (by decide) rfl (fun ls hl => ?_)
      refine lv_iinc (v := (x5 + (1 : Int32))) (lv' := [(5, .int (x5 + (1 : Int32))), (4, .int (imin x4 x5)), (0, .ref (la 0 0)), (1, .ref da0), (2, .int x2), (3, .int x3)]) hx hb dX8_areWays_104 hl (k := 5) rfl rfl (by decide) rfl (fun ls hl => ?_)
      refine lv_goto (tgt := 70) hx hb dX8_areWays_107 (by decide) ?_
      refine W.widen (k := C0) (n := S0) (by omega) (by omega) ?_
      exact kc _ (Option.some.inj h).symm hM hS (lv_sub hl [2, 3, 4, 5, 1, 0] rfl)
set_option maxHeartbeats 4000000 in
theorem wl_L_areWays_70 {p : Program} {l : Launch} {e : Env} {s : State} {m : MethodId} {args : Array Value} {below : List Frame} {meth : Method} {c : Code} {D : va_G} {cy : Nat → ClassId} {ad : Nat → Nat} {b : Nat} {la : Nat → Nat → Nat} {ν : gM} {P P0 : va_W} {x2 : Int32} {x3 : Int32} {q1 : Nat → Nat → Int32} {μ : gM}  {r : Int32} {RES : (Bool) × gM} {CM SM : Nat} (F : gF p s m meth c cX8_areWays RX8 7 (some .boolean)) (E : hE l D cy ad b s) (hY : lY cy ad la ν P) (hPd : ∀ (μ : gM) (H : Heap), hW D cy ad b μ P [] H → hW D cy ad b μ P0 [] H) {da0 : Nat} {dr0 : Nat → Nat} (hD0 : ∀ x ∈ hmat cy da0 dr0 (lPt ν) q1, x ∈ P) (hcr : CM ≤ 17769) (hsr : SM ≤ 71544) (kx : ∀ (t : Int32) {H : Heap} {locs : List Loc} {ls : Array Slot}, r = t → hW D cy ad b μ P [] H → va_S (hA b) s.heap H locs → lv_has ls 7 [(0, .ref (la 0 0)), (1, .ref da0), (2, .int x2), (3, .int x3), (4, .int t)] → W p l e ({ frames := 7, cells := 17769, slots := 71544, locals := 166 } : Room) s m args below meth c H locs CM SM (MQ below (hQ b (fun rv H => rv = some (.int (b2i RES.1)) ∧ hW D cy ad b RES.2 P0 [] H)) args s 17769 71544 (hA b)) (F0 m 110 ls []))  : ∀ (n : Nat) (x4 : Int32) (x5 : Int32)  {cells slots : Nat}, cells + n * 0 ≤ CM → slots + n * 0 ≤ SM → gloop (fun t => b_L_areWays_70 x2 x3 q1 t.1 t.2 ν μ) n (x4, x5) = some r → ∀ {H : Heap} {locs : List Loc} {ls : Array Slot}, hW D cy ad b μ P [] H → va_S (hA b) s.heap H locs → lv_has ls 7 [(0, .ref (la 0 0)), (1, .ref da0), (2, .int x2), (3, .int x3), (4, .int x4), (5, .int x5)] → W p l e ({ frames := 7, cells := 17769, slots := 71544, locals := 166 } : Room) s m args below meth c H locs cells slots (MQ below (hQ b (fun rv H => rv = some (.int (b2i RES.1)) ∧ hW D cy ad b RES.2 P0 [] H)) args s 17769 71544 (hA b)) (F0 m 70 ls []) := by
  intro n
  induction n with
  | zero =>
    intro x4 x5 cells slots hc hs h
    exact (gloop_0 h).elim
  | succ n ih =>
    intro x4 x5 cells slots hc hs h H locs ls hM hS hl
    obtain ⟨o, h0, hcc, hq⟩ := gloop_s h
    have h1 : b_L_areWays_70 x2 x3 q1 x4 x5 ν μ = some o := h0
    exact wb_L_areWays_70 (C0 := cells + 0) (S0 := slots + 0) (CM := CM) (SM := SM) h1 F E hY hPd hD0 (by omega) (by omega) (by omega) (by omega) hcr hsr (fun t H locs ls ho hM hS hl => ih t.1 t.2 (by omega) (by omega) (hcc t ho) hM hS hl) (fun t H locs ls ho hM hS hl => kx t (hq _ ho).symm hM hS hl) hM hS hl
def j_L_areWays_194 (x2 : Int32) (x3 : Int32) (x5 : Int32) (y0 : Int32) (y1 : Int32) (q1 : Nat → Nat → Int32) (ν μ : gM) : Option ((Int32 × gM) ⊕ ((gM) ⊕ ((Bool) × gM))) :=
  if (y0 = y1) then Option.bind (f_L_isWay x3 x5 q1 ν μ) (fun q28 => if ((b2i q28.1) = 0) then some (.inr (.inr (false, q28.2))) else some (.inl ((x5 + (1 : Int32)), q28.2))) else some (.inr (.inr (false, μ)))
set_option maxHeartbeats 4000000 in
set_option maxRecDepth 100000 in
theorem wj_L_areWays_194 {p : Program} {l : Launch} {e : Env} {s : State} {m : MethodId} {args : Array Value} {below : List Frame} {meth : Method} {c : Code} {D : va_G} {cy : Nat → ClassId} {ad : Nat → Nat} {b : Nat} {la : Nat → Nat → Nat} {ν : gM} {P P0 : va_W} {x2 : Int32} {x3 : Int32} {x5 : Int32} {y0 : Int32} {y1 : Int32} {q1 : Nat → Nat → Int32} {μ : gM}  {o : (Int32 × gM) ⊕ ((gM) ⊕ ((Bool) × gM))} {RES : (Bool) × gM} {cells slots C0 S0 CM SM : Nat} (h : j_L_areWays_194 x2 x3 x5 y0 y1 q1 ν μ = some o) (F : gF p s m meth c cX8_areWays RX8 7 (some .boolean)) (E : hE l D cy ad b s) (hY : lY cy ad la ν P) (hPd : ∀ (μ : gM) (H : Heap), hW D cy ad b μ P [] H → hW D cy ad b μ P0 [] H) {da0 : Nat} {dr0 : Nat → Nat} (hD0 : ∀ x ∈ hmat cy da0 dr0 (lPt ν) q1, x ∈ P) (hc : cells + 216 ≤ C0) (hs : slots + 864 ≤ S0) (hcm : C0 ≤ CM) (hsm : S0 ≤ SM) (hcr : CM ≤ 17769) (hsr : SM ≤ 71544) (kc : ∀ (t : Int32 × gM) {H : Heap} {locs : List Loc} {ls : Array Slot}, o = .inl t → hW D cy ad b t.2 P [] H → va_S (hA b) s.heap H locs → lv_has ls 7 [(0, .ref (la 0 0)), (1, .ref da0), (2, .int x2), (3, .int x3), (5, .int t.1)] → W p l e ({ frames := 7, cells := 17769, slots := 71544, locals := 166 } : Room) s m args below meth c H locs C0 S0 (MQ below (hQ b (fun rv H => rv = some (.int (b2i RES.1)) ∧ hW D cy ad b RES.2 P0 [] H)) args s 17769 71544 (hA b)) (F0 m 142 ls [])) (kx : ∀ (t : gM) {H : Heap} {locs : List Loc} {ls : Array Slot}, o = .inr (.inl t) → hW D cy ad b t P [] H → va_S (hA b) s.heap H locs → lv_has ls 7 [(0, .ref (la 0 0)), (1, .ref da0), (2, .int x2), (3, .int x3)] → W p l e ({ frames := 7, cells := 17769, slots := 71544, locals := 166 } : Room) s m args below meth c H locs CM SM (MQ below (hQ b (fun rv H => rv = some (.int (b2i RES.1)) ∧ hW D cy ad b RES.2 P0 [] H)) args s 17769 71544 (hA b)) (F0 m 218 ls [])) (kr : ∀ x : (Bool) × gM, o = .inr (.inr x) → x = RES) {H : Heap} {locs : List Loc} {ls : Array Slot} (hM : hW D cy ad b μ P [] H) (hS : va_S (hA b) s.heap H locs) (hl : lv_has ls 7 [(0, .ref (la 0 0)), (1, .ref da0), (2, .int x2), (3, .int x3), (5, .int x5)]) : W p l e ({ frames := 7, cells := 17769, slots := 71544, locals := 166 } : Room) s m args below meth c H locs cells slots (MQ below (hQ b (fun rv H => rv = some (.int (b2i RES.1)) ∧ hW D cy ad b RES.2 P0 [] H)) args s 17769 71544 (hA b)) (F0 m 194 ls [.int y1, .int y0]) := by
  obtain ⟨hx, hb, hml, hown, hlocks, hr⟩ := id F
  unfold j_L_areWays_194 at h
  refine lv_icmp_eq (tgt := 199) hx hb dX8_areWays_194 (by decide) (fun c27 => ?_) (fun c27 => ?_)
  · replace h := gif_t c27 h
    refine lv_aload_n hx hb dX8_areWays_199 rfl (lv_at hl 0 rfl) ?_
    refine lv_iload_n hx hb dX8_areWays_200 rfl (lv_at hl 3 rfl) ?_
    refine lv_iload hx hb dX8_areWays_201 (lv_at hl 4 rfl) ?_
    refine lv_aload_n hx hb dX8_areWays_203 rfl (lv_at hl 1 rfl) ?_
    obtain ⟨q28, hq28, h⟩ := gbind_e h
    refine h_callV (As := [.int x3, .int x5, .ref da0]) (rest := []) hx hb (hml.trans hl.1.symm) hown E hM hS xy_X8_isWay kw_1267 (c_L_isWay hY hD0 hq28) (hp_m (hY.c1 0 rfl)) gC_X8.1 rfl rfl (Nat.le_of_ble_eq_true rfl) ⟨(Nat.le_of_ble_eq_true rfl), (Nat.le_of_ble_eq_true rfl)⟩ ⟨(show _ ≤ 17769 by omega), (show _ ≤ 71544 by omega)⟩ dX8_areWays_204 (fun rv H locs hZ hS => ?_)
    obtain ⟨rfl, hM⟩ := hZ
    refine lv_if_ne (tgt := 212) hx hb dX8_areWays_207 (by decide) (fun c29 => ?_) (fun c29 => ?_)
    · replace h := gif_f c29 h
      refine lv_iinc (v := (x5 + (1 : Int32))) (lv' := [(5, .int (x5 + (1 : Int32))), (0, .ref (la 0 0)), (1, .ref da0), (2, .int x2), (3, .int x3)]) hx hb dX8_areWays_212 hl (k := 4) rfl rfl (by decide) rfl (fun ls hl => ?_)
      refine lv_goto (tgt := 142) hx hb dX8_areWays_215 (by decide) ?_
      refine W.widen (k := C0) (n := S0) (by omega) (by omega) ?_
      exact kc _ (Option.some.inj h).symm hM hS (lv_sub hl [1, 2, 3, 4, 0] rfl)
    · replace h := gif_t c29 h
      refine lv_iconst (v := (0 : Int32)) hx hb dX8_areWays_210 (by decide) ?_
      obtain rfl := kr _ (Option.some.inj h).symm
      exact h_zret (v := b2i false) hx hb hr hlocks (by omega) (by omega) (b2i_nar false) ⟨rfl, hPd _ _ (hW.drop hM)⟩ hS dX8_areWays_211
  · replace h := gif_f c27 h
    refine lv_iconst (v := (0 : Int32)) hx hb dX8_areWays_197 (by decide) ?_
    obtain rfl := kr _ (Option.some.inj h).symm
    exact h_zret (v := b2i false) hx hb hr hlocks (by omega) (by omega) (b2i_nar false) ⟨rfl, hPd _ _ (hW.drop hM)⟩ hS dX8_areWays_198
def j_L_areWays_167 (x2 : Int32) (x3 : Int32) (x5 : Int32) (y0 : Int32) (q1 : Nat → Nat → Int32) (ν μ : gM) : Option ((Int32 × gM) ⊕ ((gM) ⊕ ((Bool) × gM))) :=
  Option.bind (f_X7_distance x3 x5 μ) (fun q23 => if (y0 = 0) then gchk (gIn x3 (lPt ν)) (gchk (gIn x5 (lPt ν)) (j_L_areWays_194 x2 x3 x5 q23.1 (q1 x3.toNatClampNeg x5.toNatClampNeg) q1 ν q23.2)) else j_L_areWays_194 x2 x3 x5 q23.1 (-1 : Int32) q1 ν q23.2)
set_option maxHeartbeats 4000000 in
set_option maxRecDepth 100000 in
theorem wj_L_areWays_167 {p : Program} {l : Launch} {e : Env} {s : State} {m : MethodId} {args : Array Value} {below : List Frame} {meth : Method} {c : Code} {D : va_G} {cy : Nat → ClassId} {ad : Nat → Nat} {b : Nat} {la : Nat → Nat → Nat} {ν : gM} {P P0 : va_W} {x2 : Int32} {x3 : Int32} {x5 : Int32} {y0 : Int32} {q1 : Nat → Nat → Int32} {μ : gM}  {o : (Int32 × gM) ⊕ ((gM) ⊕ ((Bool) × gM))} {RES : (Bool) × gM} {cells slots C0 S0 CM SM : Nat} (h : j_L_areWays_167 x2 x3 x5 y0 q1 ν μ = some o) (F : gF p s m meth c cX8_areWays RX8 7 (some .boolean)) (E : hE l D cy ad b s) (hY : lY cy ad la ν P) (hPd : ∀ (μ : gM) (H : Heap), hW D cy ad b μ P [] H → hW D cy ad b μ P0 [] H) {da0 : Nat} {dr0 : Nat → Nat} (hD0 : ∀ x ∈ hmat cy da0 dr0 (lPt ν) q1, x ∈ P) (hc : cells + 216 ≤ C0) (hs : slots + 864 ≤ S0) (hcm : C0 ≤ CM) (hsm : S0 ≤ SM) (hcr : CM ≤ 17769) (hsr : SM ≤ 71544) (kc : ∀ (t : Int32 × gM) {H : Heap} {locs : List Loc} {ls : Array Slot}, o = .inl t → hW D cy ad b t.2 P [] H → va_S (hA b) s.heap H locs → lv_has ls 7 [(0, .ref (la 0 0)), (1, .ref da0), (2, .int x2), (3, .int x3), (5, .int t.1)] → W p l e ({ frames := 7, cells := 17769, slots := 71544, locals := 166 } : Room) s m args below meth c H locs C0 S0 (MQ below (hQ b (fun rv H => rv = some (.int (b2i RES.1)) ∧ hW D cy ad b RES.2 P0 [] H)) args s 17769 71544 (hA b)) (F0 m 142 ls [])) (kx : ∀ (t : gM) {H : Heap} {locs : List Loc} {ls : Array Slot}, o = .inr (.inl t) → hW D cy ad b t P [] H → va_S (hA b) s.heap H locs → lv_has ls 7 [(0, .ref (la 0 0)), (1, .ref da0), (2, .int x2), (3, .int x3)] → W p l e ({ frames := 7, cells := 17769, slots := 71544, locals := 166 } : Room) s m args below meth c H locs CM SM (MQ below (hQ b (fun rv H => rv = some (.int (b2i RES.1)) ∧ hW D cy ad b RES.2 P0 [] H)) args s 17769 71544 (hA b)) (F0 m 218 ls [])) (kr : ∀ x : (Bool) × gM, o = .inr (.inr x) → x = RES) {H : Heap} {locs : List Loc} {ls : Array Slot} (hM : hW D cy ad b μ P [] H) (hS : va_S (hA b) s.heap H locs) (hl : lv_has ls 7 [(0, .ref (la 0 0)), (1, .ref da0), (2, .int x2), (3, .int x3), (5, .int x5)]) : W p l e ({ frames := 7, cells := 17769, slots := 71544, locals := 166 } : Room) s m args below meth c H locs cells slots (MQ below (hQ b (fun rv H => rv = some (.int (b2i RES.1)) ∧ hW D cy ad b RES.2 P0 [] H)) args s 17769 71544 (hA b)) (F0 m 167 ls [.int y0]) := by
  obtain ⟨hx, hb, hml, hown, hlocks, hr⟩ := id F
  unfold j_L_areWays_167 at h
  refine lv_istore (lv' := [(6, .int y0), (0, .ref (la 0 0)), (1, .ref da0), (2, .int x2), (3, .int x3), (5, .int x5)]) hx hb dX8_areWays_167 hl (by decide) rfl (fun ls hl => ?_)
  refine lv_aload_n hx hb dX8_areWays_169 rfl (lv_at hl 1 rfl) ?_
  refine h_get hx hb hown E hM (hp_m (hY.c1 0 rfl)) gC_X8 0 (by decide) (v := .ref (ad 0)) rfl kw_1023 dX8_areWays_170 ?_
  refine lv_iload_n hx hb dX8_areWays_173 rfl (lv_at hl 4 rfl) ?_
  refine lv_iload hx hb dX8_areWays_174 (lv_at hl 5 rfl) ?_
  obtain ⟨q23, hq23, h⟩ := gbind_e h
  refine h_callC (As := [.int x3, .int x5]) (rest := []) hx hb (hml.trans hl.1.symm) hown E hM hS hy_X7_distance kw_1249 (c_X7_distance hq23) hk_0 dd_0 rfl rfl rfl (Nat.le_of_ble_eq_true rfl) ⟨(Nat.le_of_ble_eq_true rfl), (Nat.le_of_ble_eq_true rfl)⟩ ⟨(show _ ≤ 17769 by omega), (show _ ≤ 71544 by omega)⟩ dX8_areWays_176 (fun H locs hM hS => ?_)
  refine lv_iload hx hb dX8_areWays_179 (lv_at hl 0 rfl) ?_
  refine lv_if_eq (tgt := 188) hx hb dX8_areWays_181 (by decide) (fun c24 => ?_) (fun c24 => ?_)
  · replace h := gif_t c24 h
    refine lv_aload_n hx hb dX8_areWays_188 rfl (lv_at hl 2 rfl) ?_
    refine lv_iload_n hx hb dX8_areWays_189 rfl (lv_at hl 4 rfl) ?_
    obtain ⟨c25, h⟩ := gchk_e h
    refine h_rald hx hb E hM (hp_m (hD0 _ hmat_o)) c25 (v := .ref (dr0 x3.toNatClampNeg)) (x_lrf c25) dX8_areWays_190 ?_
    refine lv_iload hx hb dX8_areWays_191 (lv_at hl 5 rfl) ?_
    obtain ⟨c26, h⟩ := gchk_e h
    refine l_iald hx hb E hM (hp_m (hD0 _ (hmat_r c25.2))) c26 (v := (q1 x3.toNatClampNeg x5.toNatClampNeg)) rfl dX8_areWays_193 ?_
    exact wj_L_areWays_194 h F E hY hPd hD0 (by omega) (by omega) hcm hsm hcr hsr kc kx kr hM hS (lv_sub hl [1, 2, 3, 4, 5] rfl)
  · replace h := gif_f c24 h
    refine lv_iconst (v := (-1 : Int32)) hx hb dX8_areWays_184 (by decide) ?_
    refine lv_goto (tgt := 194) hx hb dX8_areWays_185 (by decide) ?_
    exact wj_L_areWays_194 h F E hY hPd hD0 (by omega) (by omega) hcm hsm hcr hsr kc kx kr hM hS (lv_sub hl [1, 2, 3, 4, 5] rfl)
def b_L_areWays_142 (x2 : Int32) (x3 : Int32) (q1 : Nat → Nat → Int32) (x5 : Int32) (ν μ : gM) : Option ((Int32 × gM) ⊕ ((gM) ⊕ ((Bool) × gM))) :=
  if ((gi ν 0 1) ≤ x5) then some (.inr (.inl μ)) else gchk (gIn x3 (lPt ν)) (gchk (gIn x5 (lPt ν)) (if ((q1 x3.toNatClampNeg x5.toNatClampNeg) < (1000000 : Int32)) then j_L_areWays_167 x2 x3 x5 (0 : Int32) q1 ν μ else j_L_areWays_167 x2 x3 x5 (1 : Int32) q1 ν μ))
set_option maxHeartbeats 4000000 in
set_option maxRecDepth 100000 in
theorem wb_L_areWays_142 {p : Program} {l : Launch} {e : Env} {s : State} {m : MethodId} {args : Array Value} {below : List Frame} {meth : Method} {c : Code} {D : va_G} {cy : Nat → ClassId} {ad : Nat → Nat} {b : Nat} {la : Nat → Nat → Nat} {ν : gM} {P P0 : va_W} {x2 : Int32} {x3 : Int32} {q1 : Nat → Nat → Int32} {x5 : Int32} {μ : gM}  {o : (Int32 × gM) ⊕ ((gM) ⊕ ((Bool) × gM))} {RES : (Bool) × gM} {cells slots C0 S0 CM SM : Nat} (h : b_L_areWays_142 x2 x3 q1 x5 ν μ = some o) (F : gF p s m meth c cX8_areWays RX8 7 (some .boolean)) (E : hE l D cy ad b s) (hY : lY cy ad la ν P) (hPd : ∀ (μ : gM) (H : Heap), hW D cy ad b μ P [] H → hW D cy ad b μ P0 [] H) {da0 : Nat} {dr0 : Nat → Nat} (hD0 : ∀ x ∈ hmat cy da0 dr0 (lPt ν) q1, x ∈ P) (hc : cells + 216 ≤ C0) (hs : slots + 864 ≤ S0) (hcm : C0 ≤ CM) (hsm : S0 ≤ SM) (hcr : CM ≤ 17769) (hsr : SM ≤ 71544) (kc : ∀ (t : Int32 × gM) {H : Heap} {locs : List Loc} {ls : Array Slot}, o = .inl t → hW D cy ad b t.2 P [] H → va_S (hA b) s.heap H locs → lv_has ls 7 [(0, .ref (la 0 0)), (1, .ref da0), (2, .int x2), (3, .int x3), (5, .int t.1)] → W p l e ({ frames := 7, cells := 17769, slots := 71544, locals := 166 } : Room) s m args below meth c H locs C0 S0 (MQ below (hQ b (fun rv H => rv = some (.int (b2i RES.1)) ∧ hW D cy ad b RES.2 P0 [] H)) args s 17769 71544 (hA b)) (F0 m 142 ls [])) (kx : ∀ (t : gM) {H : Heap} {locs : List Loc} {ls : Array Slot}, o = .inr (.inl t) → hW D cy ad b t P [] H → va_S (hA b) s.heap H locs → lv_has ls 7 [(0, .ref (la 0 0)), (1, .ref da0), (2, .int x2), (3, .int x3)] → W p l e ({ frames := 7, cells := 17769, slots := 71544, locals := 166 } : Room) s m args below meth c H locs CM SM (MQ below (hQ b (fun rv H => rv = some (.int (b2i RES.1)) ∧ hW D cy ad b RES.2 P0 [] H)) args s 17769 71544 (hA b)) (F0 m 218 ls [])) (kr : ∀ x : (Bool) × gM, o = .inr (.inr x) → x = RES) {H : Heap} {locs : List Loc} {ls : Array Slot} (hM : hW D cy ad b μ P [] H) (hS : va_S (hA b) s.heap H locs) (hl : lv_has ls 7 [(0, .ref (la 0 0)), (1, .ref da0), (2, .int x2), (3, .int x3), (5, .int x5)]) : W p l e ({ frames := 7, cells := 17769, slots := 71544, locals := 166 } : Room) s m args below meth c H locs cells slots (MQ below (hQ b (fun rv H => rv = some (.int (b2i RES.1)) ∧ hW D cy ad b RES.2 P0 [] H)) args s 17769 71544 (hA b)) (F0 m 142 ls []) := by
  obtain ⟨hx, hb, hml, hown, hlocks, hr⟩ := id F
  unfold b_L_areWays_142 at h
  refine lv_iload hx hb dX8_areWays_142 (lv_at hl 4 rfl) ?_
  refine lv_aload_n hx hb dX8_areWays_144 rfl (lv_at hl 0 rfl) ?_
  refine h_get hx hb hown E hM (hp_m (hY.c1 0 rfl)) gC_X8 1 (by decide) (v := .int (gi ν 0 1)) rfl kw_1025 dX8_areWays_145 ?_
  refine lv_icmp_ge (tgt := 218) hx hb dX8_areWays_148 (by decide) (fun c19 => ?_) (fun c19 => ?_)
  · replace h := gif_t c19 h
    refine W.widen (k := CM) (n := SM) (by omega) (by omega) ?_
    exact kx _ (Option.some.inj h).symm hM hS (lv_sub hl [0, 1, 2, 3] rfl)
  · replace h := gif_f c19 h
    refine lv_aload_n hx hb dX8_areWays_151 rfl (lv_at hl 1 rfl) ?_
    refine lv_iload_n hx hb dX8_areWays_152 rfl (lv_at hl 3 rfl) ?_
    obtain ⟨c20, h⟩ := gchk_e h
    refine h_rald hx hb E hM (hp_m (hD0 _ hmat_o)) c20 (v := .ref (dr0 x3.toNatClampNeg)) (x_lrf c20) dX8_areWays_153 ?_
    refine lv_iload hx hb dX8_areWays_154 (lv_at hl 4 rfl) ?_
    obtain ⟨c21, h⟩ := gchk_e h
    refine l_iald hx hb E hM (hp_m (hD0 _ (hmat_r c20.2))) c21 (v := (q1 x3.toNatClampNeg x5.toNatClampNeg)) rfl dX8_areWays_156 ?_
    refine lv_ldc hx hb hown (v := (1000000 : Int32)) (E.kw kw_1211) dX8_areWays_157 ?_
    refine lv_icmp_lt (tgt := 166) hx hb dX8_areWays_159 (by decide) (fun c22 => ?_) (fun c22 => ?_)
    · replace h := gif_t c22 h
      refine lv_iconst (v := (0 : Int32)) hx hb dX8_areWays_166 (by decide) ?_
      exact wj_L_areWays_167 h F E hY hPd hD0 (by omega) (by omega) hcm hsm hcr hsr kc kx kr hM hS hl
    · replace h := gif_f c22 h
      refine lv_iconst (v := (1 : Int32)) hx hb dX8_areWays_162 (by decide) ?_
      refine lv_goto (tgt := 167) hx hb dX8_areWays_163 (by decide) ?_
      exact wj_L_areWays_167 h F E hY hPd hD0 (by omega) (by omega) hcm hsm hcr hsr kc kx kr hM hS hl
set_option maxHeartbeats 4000000 in
theorem wl_L_areWays_142 {p : Program} {l : Launch} {e : Env} {s : State} {m : MethodId} {args : Array Value} {below : List Frame} {meth : Method} {c : Code} {D : va_G} {cy : Nat → ClassId} {ad : Nat → Nat} {b : Nat} {la : Nat → Nat → Nat} {ν : gM} {P P0 : va_W} {x2 : Int32} {x3 : Int32} {q1 : Nat → Nat → Int32}   {r : (gM) ⊕ ((Bool) × gM)} {RES : (Bool) × gM} {CM SM : Nat} (F : gF p s m meth c cX8_areWays RX8 7 (some .boolean)) (E : hE l D cy ad b s) (hY : lY cy ad la ν P) (hPd : ∀ (μ : gM) (H : Heap), hW D cy ad b μ P [] H → hW D cy ad b μ P0 [] H) {da0 : Nat} {dr0 : Nat → Nat} (hD0 : ∀ x ∈ hmat cy da0 dr0 (lPt ν) q1, x ∈ P) (hcr : CM ≤ 17769) (hsr : SM ≤ 71544) (kx : ∀ (t : gM) {H : Heap} {locs : List Loc} {ls : Array Slot}, r = .inl t → hW D cy ad b t P [] H → va_S (hA b) s.heap H locs → lv_has ls 7 [(0, .ref (la 0 0)), (1, .ref da0), (2, .int x2), (3, .int x3)] → W p l e ({ frames := 7, cells := 17769, slots := 71544, locals := 166 } : Room) s m args below meth c H locs CM SM (MQ below (hQ b (fun rv H => rv = some (.int (b2i RES.1)) ∧ hW D cy ad b RES.2 P0 [] H)) args s 17769 71544 (hA b)) (F0 m 218 ls [])) (kr : ∀ x : (Bool) × gM, r = .inr x → x = RES) : ∀ (n : Nat) (x5 : Int32)  (μ : gM) {cells slots : Nat}, cells + n * 216 ≤ CM → slots + n * 864 ≤ SM → gloop (fun t => b_L_areWays_142 x2 x3 q1 t.1 ν t.2) n (x5, μ) = some r → ∀ {H : Heap} {locs : List Loc} {ls : Array Slot}, hW D cy ad b μ P [] H → va_S (hA b) s.heap H locs → lv_has ls 7 [(0, .ref (la 0 0)), (1, .ref da0), (2, .int x2), (3, .int x3), (5, .int x5)] → W p l e ({ frames := 7, cells := 17769, slots := 71544, locals := 166 } : Room) s m args below meth c H locs cells slots (MQ below (hQ b (fun rv H => rv = some (.int (b2i RES.1)) ∧ hW D cy ad b RES.2 P0 [] H)) args s 17769 71544 (hA b)) (F0 m 142 ls []) := by
  intro n
  induction n with
  | zero =>
    intro x5 μ cells slots hc hs h
    exact (gloop_0 h).elim
  | succ n ih =>
    intro x5 μ cells slots hc hs h H locs ls hM hS hl
    obtain ⟨o, h0, hcc, hq⟩ := gloop_s h
    have h1 : b_L_areWays_142 x2 x3 q1 x5 ν μ = some o := h0
    exact wb_L_areWays_142 (C0 := cells + 216) (S0 := slots + 864) (CM := CM) (SM := SM) h1 F E hY hPd hD0 (by omega) (by omega) (by omega) (by omega) hcr hsr (fun t H locs ls ho hM hS hl => ih t.1 t.2 (by omega) (by omega) (hcc t ho) hM hS hl) (fun t H locs ls ho hM hS hl => kx t (hq _ ho).symm hM hS hl) (fun x ho => kr x (hq _ ho).symm) hM hS hl
def j_L_areWays_122 (x3 : Int32) (x4 : Int32) (y0 : Int32) (y1 : Int32) (q1 : Nat → Nat → Int32) (ν μ : gM) : Option ((Int32 × Int32 × gM) ⊕ ((Int32 × gM) ⊕ ((Bool) × gM))) :=
  Option.bind (f_X7_rootOf x3 μ) (fun q17 => if (q17.1 = x4) then Option.bind (gloop (fun t => b_L_areWays_142 (y0 + y1) x3 q1 t.1 ν t.2) 9 ((0 : Int32), q17.2)) (fun q30 => Sum.elim (fun t31 => some (.inl ((y0 + y1), (x3 + (1 : Int32)), t31))) (fun x => some (.inr (.inr x))) q30) else some (.inr (.inr (false, q17.2))))
set_option maxHeartbeats 4000000 in
set_option maxRecDepth 100000 in
theorem wj_L_areWays_122 {p : Program} {l : Launch} {e : Env} {s : State} {m : MethodId} {args : Array Value} {below : List Frame} {meth : Method} {c : Code} {D : va_G} {cy : Nat → ClassId} {ad : Nat → Nat} {b : Nat} {la : Nat → Nat → Nat} {ν : gM} {P P0 : va_W} {x3 : Int32} {x4 : Int32} {y0 : Int32} {y1 : Int32} {q1 : Nat → Nat → Int32} {μ : gM}  {o : (Int32 × Int32 × gM) ⊕ ((Int32 × gM) ⊕ ((Bool) × gM))} {RES : (Bool) × gM} {cells slots C0 S0 CM SM : Nat} (h : j_L_areWays_122 x3 x4 y0 y1 q1 ν μ = some o) (F : gF p s m meth c cX8_areWays RX8 7 (some .boolean)) (E : hE l D cy ad b s) (hY : lY cy ad la ν P) (hPd : ∀ (μ : gM) (H : Heap), hW D cy ad b μ P [] H → hW D cy ad b μ P0 [] H) {da0 : Nat} {dr0 : Nat → Nat} (hD0 : ∀ x ∈ hmat cy da0 dr0 (lPt ν) q1, x ∈ P) (hc : cells + 1944 ≤ C0) (hs : slots + 7776 ≤ S0) (hcm : C0 ≤ CM) (hsm : S0 ≤ SM) (hcr : CM ≤ 17769) (hsr : SM ≤ 71544) (kc : ∀ (t : Int32 × Int32 × gM) {H : Heap} {locs : List Loc} {ls : Array Slot}, o = .inl t → hW D cy ad b t.2.2 P [] H → va_S (hA b) s.heap H locs → lv_has ls 7 [(0, .ref (la 0 0)), (1, .ref da0), (2, .int t.1), (3, .int t.2.1)] → W p l e ({ frames := 7, cells := 17769, slots := 71544, locals := 166 } : Room) s m args below meth c H locs C0 S0 (MQ below (hQ b (fun rv H => rv = some (.int (b2i RES.1)) ∧ hW D cy ad b RES.2 P0 [] H)) args s 17769 71544 (hA b)) (F0 m 10 ls [])) (kx : ∀ (t : Int32 × gM) {H : Heap} {locs : List Loc} {ls : Array Slot}, o = .inr (.inl t) → hW D cy ad b t.2 P [] H → va_S (hA b) s.heap H locs → lv_has ls 7 [(0, .ref (la 0 0)), (2, .int t.1)] → W p l e ({ frames := 7, cells := 17769, slots := 71544, locals := 166 } : Room) s m args below meth c H locs CM SM (MQ below (hQ b (fun rv H => rv = some (.int (b2i RES.1)) ∧ hW D cy ad b RES.2 P0 [] H)) args s 17769 71544 (hA b)) (F0 m 224 ls [])) (kr : ∀ x : (Bool) × gM, o = .inr (.inr x) → x = RES) {H : Heap} {locs : List Loc} {ls : Array Slot} (hM : hW D cy ad b μ P [] H) (hS : va_S (hA b) s.heap H locs) (hl : lv_has ls 7 [(0, .ref (la 0 0)), (1, .ref da0), (3, .int x3), (4, .int x4)]) : W p l e ({ frames := 7, cells := 17769, slots := 71544, locals := 166 } : Room) s m args below meth c H locs cells slots (MQ below (hQ b (fun rv H => rv = some (.int (b2i RES.1)) ∧ hW D cy ad b RES.2 P0 [] H)) args s 17769 71544 (hA b)) (F0 m 122 ls [.int y1, .int y0]) := by
  obtain ⟨hx, hb, hml, hown, hlocks, hr⟩ := id F
  unfold j_L_areWays_122 at h
  refine lv_iadd hx hb dX8_areWays_122 ?_
  refine lv_istore_n (lv' := [(2, .int (y0 + y1)), (0, .ref (la 0 0)), (1, .ref da0), (3, .int x3), (4, .int x4)]) hx hb dX8_areWays_123 rfl hl (by decide) rfl (fun ls hl => ?_)
  refine lv_aload_n hx hb dX8_areWays_124 rfl (lv_at hl 1 rfl) ?_
  refine h_get hx hb hown E hM (hp_m (hY.c1 0 rfl)) gC_X8 0 (by decide) (v := .ref (ad 0)) rfl kw_1023 dX8_areWays_125 ?_
  refine lv_iload_n hx hb dX8_areWays_128 rfl (lv_at hl 3 rfl) ?_
  obtain ⟨q17, hq17, h⟩ := gbind_e h
  refine h_callC (As := [.int x3]) (rest := []) hx hb (hml.trans hl.1.symm) hown E hM hS hy_X7_rootOf kw_1236 (c_X7_rootOf hq17) hk_0 dd_0 rfl rfl rfl (Nat.le_of_ble_eq_true rfl) ⟨(Nat.le_of_ble_eq_true rfl), (Nat.le_of_ble_eq_true rfl)⟩ ⟨(show _ ≤ 17769 by omega), (show _ ≤ 71544 by omega)⟩ dX8_areWays_129 (fun H locs hM hS => ?_)
  refine lv_iload hx hb dX8_areWays_132 (lv_at hl 4 rfl) ?_
  refine lv_icmp_eq (tgt := 139) hx hb dX8_areWays_134 (by decide) (fun c18 => ?_) (fun c18 => ?_)
  · replace h := gif_t c18 h
    refine lv_iconst (v := (0 : Int32)) hx hb dX8_areWays_139 (by decide) ?_
    refine lv_istore (lv' := [(5, .int (0 : Int32)), (2, .int (y0 + y1)), (0, .ref (la 0 0)), (1, .ref da0), (3, .int x3), (4, .int x4)]) hx hb dX8_areWays_140 hl (by decide) rfl (fun ls hl => ?_)
    obtain ⟨q30, h1, h⟩ := gbind_e h
    refine wl_L_areWays_142 (CM := cells + 1944) (SM := slots + 7776) F E hY hPd hD0 (by omega) (by omega) (r := q30) (fun t31 H locs ls e1 hM hS hl => ?_) (fun x ex => ?_) 9 (0 : Int32) q17.2 (by omega) (by omega) h1 hM hS (lv_sub hl [2, 3, 1, 4, 0] rfl)
    · replace h := gsum_l e1 h
      refine lv_iinc (v := (x3 + (1 : Int32))) (lv' := [(3, .int (x3 + (1 : Int32))), (0, .ref (la 0 0)), (1, .ref da0), (2, .int (y0 + y1))]) hx hb dX8_areWays_218 hl (k := 3) rfl rfl (by decide) rfl (fun ls hl => ?_)
      refine lv_goto (tgt := 10) hx hb dX8_areWays_221 (by decide) ?_
      refine W.widen (k := C0) (n := S0) (by omega) (by omega) ?_
      exact kc _ (Option.some.inj h).symm hM hS (lv_sub hl [1, 2, 3, 0] rfl)
    · have h2 := gsum_r ex h
      exact kr x (Option.some.inj h2.symm)
  · replace h := gif_f c18 h
    refine lv_iconst (v := (0 : Int32)) hx hb dX8_areWays_137 (by decide) ?_
    obtain rfl := kr _ (Option.some.inj h).symm
    exact h_zret (v := b2i false) hx hb hr hlocks (by omega) (by omega) (b2i_nar false) ⟨rfl, hPd _ _ (hW.drop hM)⟩ hS dX8_areWays_138
def b_L_areWays_10 (q1 : Nat → Nat → Int32) (x2 : Int32) (x3 : Int32) (ν μ : gM) : Option ((Int32 × Int32 × gM) ⊕ ((Int32 × gM) ⊕ ((Bool) × gM))) :=
  if ((gi ν 0 1) ≤ x3) then some (.inr (.inl (x2, μ))) else Option.bind (gloop (fun t => b_L_areWays_29 x2 x3 q1 t.1 t.2 ν μ) 9 (x3, ((gi ν 0 1) - (1 : Int32)))) (fun q10 => Option.bind (gloop (fun t => b_L_areWays_70 x2 x3 q1 t.1 t.2 ν μ) 9 (q10, (0 : Int32))) (fun q15 => if (q15 = x3) then j_L_areWays_122 x3 q15 x2 (1 : Int32) q1 ν μ else j_L_areWays_122 x3 q15 x2 (0 : Int32) q1 ν μ))
set_option maxHeartbeats 4000000 in
set_option maxRecDepth 100000 in
theorem wb_L_areWays_10 {p : Program} {l : Launch} {e : Env} {s : State} {m : MethodId} {args : Array Value} {below : List Frame} {meth : Method} {c : Code} {D : va_G} {cy : Nat → ClassId} {ad : Nat → Nat} {b : Nat} {la : Nat → Nat → Nat} {ν : gM} {P P0 : va_W} {q1 : Nat → Nat → Int32} {x2 : Int32} {x3 : Int32} {μ : gM}  {o : (Int32 × Int32 × gM) ⊕ ((Int32 × gM) ⊕ ((Bool) × gM))} {RES : (Bool) × gM} {cells slots C0 S0 CM SM : Nat} (h : b_L_areWays_10 q1 x2 x3 ν μ = some o) (F : gF p s m meth c cX8_areWays RX8 7 (some .boolean)) (E : hE l D cy ad b s) (hY : lY cy ad la ν P) (hPd : ∀ (μ : gM) (H : Heap), hW D cy ad b μ P [] H → hW D cy ad b μ P0 [] H) {da0 : Nat} {dr0 : Nat → Nat} (hD0 : ∀ x ∈ hmat cy da0 dr0 (lPt ν) q1, x ∈ P) (hc : cells + 1944 ≤ C0) (hs : slots + 7776 ≤ S0) (hcm : C0 ≤ CM) (hsm : S0 ≤ SM) (hcr : CM ≤ 17769) (hsr : SM ≤ 71544) (kc : ∀ (t : Int32 × Int32 × gM) {H : Heap} {locs : List Loc} {ls : Array Slot}, o = .inl t → hW D cy ad b t.2.2 P [] H → va_S (hA b) s.heap H locs → lv_has ls 7 [(0, .ref (la 0 0)), (1, .ref da0), (2, .int t.1), (3, .int t.2.1)] → W p l e ({ frames := 7, cells := 17769, slots := 71544, locals := 166 } : Room) s m args below meth c H locs C0 S0 (MQ below (hQ b (fun rv H => rv = some (.int (b2i RES.1)) ∧ hW D cy ad b RES.2 P0 [] H)) args s 17769 71544 (hA b)) (F0 m 10 ls [])) (kx : ∀ (t : Int32 × gM) {H : Heap} {locs : List Loc} {ls : Array Slot}, o = .inr (.inl t) → hW D cy ad b t.2 P [] H → va_S (hA b) s.heap H locs → lv_has ls 7 [(0, .ref (la 0 0)), (2, .int t.1)] → W p l e ({ frames := 7, cells := 17769, slots := 71544, locals := 166 } : Room) s m args below meth c H locs CM SM (MQ below (hQ b (fun rv H => rv = some (.int (b2i RES.1)) ∧ hW D cy ad b RES.2 P0 [] H)) args s 17769 71544 (hA b)) (F0 m 224 ls [])) (kr : ∀ x : (Bool) × gM, o = .inr (.inr x) → x = RES) {H : Heap} {locs : List Loc} {ls : Array Slot} (hM : hW D cy ad b μ P [] H) (hS : va_S (hA b) s.heap H locs) (hl : lv_has ls 7 [(0, .ref (la 0 0)), (1, .ref da0), (2, .int x2), (3, .int x3)]) : W p l e ({ frames := 7, cells := 17769, slots := 71544, locals := 166 } : Room) s m args below meth c H locs cells slots (MQ below (hQ b (fun rv H => rv = some (.int (b2i RES.1)) ∧ hW D cy ad b RES.2 P0 [] H)) args s 17769 71544 (hA b)) (F0 m 10 ls []) := by
  obtain ⟨hx, hb, hml, hown, hlocks, hr⟩ := id F
  unfold b_L_areWays_10 at h
  refine lv_iload_n hx hb dX8_areWays_10 rfl (lv_at hl 3 rfl) ?_
  refine lv_aload_n hx hb dX8_areWays_11 rfl (lv_at hl 0 rfl) ?_
  refine h_get hx hb hown E hM (hp_m (hY.c1 0 rfl)) gC_X8 1 (by decide) (v := .int (gi ν 0 1)) rfl kw_1025 dX8_areWays_12 ?_
  refine lv_icmp_ge (tgt := 224) hx hb dX8_areWays_15 (by decide) (fun c4 => ?_) (fun c4 => ?_)
  · replace h := gif_t c4 h
    refine W.widen (k := CM) (n := SM) (by omega) (by omega) ?_
    exact kx _ (Option.some.inj h).symm hM hS (lv_sub hl [0, 2] rfl)
  · replace h := gif_f c4 h
    refine lv_iload_n hx hb dX8_areWays_18 rfl (lv_at hl 3 rfl) ?_
    refine lv_istore (lv' := [(4, .int x3), (0, .ref (la 0 0)), (1, .ref da0), (2, .int x2), (3, .int x3)]) hx hb dX8_areWays_19 hl (by decide) rfl (fun ls hl => ?_)
    refine lv_aload_n hx hb dX8_areWays_21 rfl (lv_at hl 1 rfl) ?_
    refine h_get hx hb hown E hM (hp_m (hY.c1 0 rfl)) gC_X8 1 (by decide) (v := .int (gi ν 0 1)) rfl kw_1025 dX8_areWays_22 ?_
    refine lv_iconst (v := (1 : Int32)) hx hb dX8_areWays_25 (by decide) ?_
    refine lv_isub hx hb dX8_areWays_26 ?_
    refine lv_istore (lv' := [(5, .int ((gi ν 0 1) - (1 : Int32))), (4, .int x3), (0, .ref (la 0 0)), (1, .ref da0), (2, .int x2), (3, .int x3)]) hx hb dX8_areWays_27 hl (by decide) rfl (fun ls hl => ?_)
    obtain ⟨z33, h1, h⟩ := gbind_e h
    refine wl_L_areWays_29 (CM := cells + 0) (SM := slots + 0) F E hY hPd hD0 (by omega) (by omega) (r := z33) (fun q10 H locs ls e1 hM hS hl => ?_) 9 x3 ((gi ν 0 1) - (1 : Int32)) (by omega) (by omega) h1 hM hS (lv_sub hl [2, 3, 4, 5, 1, 0] rfl)
    replace e1 : z33 = q10 := e1
    rw [e1] at h
    refine lv_iconst (v := (0 : Int32)) hx hb dX8_areWays_67 (by decide) ?_
    refine lv_istore (lv' := [(5, .int (0 : Int32)), (0, .ref (la 0 0)), (1, .ref da0), (2, .int x2), (3, .int x3), (4, .int q10)]) hx hb dX8_areWays_68 hl (by decide) rfl (fun ls hl => ?_)
    obtain ⟨z32, h1, h⟩ := gbind_e h
    refine wl_L_areWays_70 (CM := cells + 0) (SM := slots + 0) F E hY hPd hD0 (by omega) (by omega) (r := z32) (fun q15 H locs ls e1 hM hS hl => ?_) 9 q10 (0 : Int32) (by omega) (by omega) h1 hM hS (lv_sub hl [1, 2, 3, 4, 5, 0] rfl)
    replace e1 : z32 = q15 := e1
    rw [e1] at h
    refine lv_iload_n hx hb dX8_areWays_110 rfl (lv_at hl 2 rfl) ?_
    refine lv_iload hx hb dX8_areWays_111 (lv_at hl 4 rfl) ?_
    refine lv_iload_n hx hb dX8_areWays_113 rfl (lv_at hl 3 rfl) ?_
    refine lv_icmp_ne (tgt := 121) hx hb dX8_areWays_114 (by decide) (fun c16 => ?_) (fun c16 => ?_)
    · replace h := gif_f c16 h
      refine lv_iconst (v := (0 : Int32)) hx hb dX8_areWays_121 (by decide) ?_
      exact wj_L_areWays_122 h F E hY hPd hD0 (by omega) (by omega) hcm hsm hcr hsr kc kx kr hM hS (lv_sub hl [0, 1, 3, 4] rfl)
    · replace h := gif_t c16 h
      refine lv_iconst (v := (1 : Int32)) hx hb dX8_areWays_117 (by decide) ?_
      refine lv_goto (tgt := 122) hx hb dX8_areWays_118 (by decide) ?_
      exact wj_L_areWays_122 h F E hY hPd hD0 (by omega) (by omega) hcm hsm hcr hsr kc kx kr hM hS (lv_sub hl [0, 1, 3, 4] rfl)
set_option maxHeartbeats 4000000 in
theorem wl_L_areWays_10 {p : Program} {l : Launch} {e : Env} {s : State} {m : MethodId} {args : Array Value} {below : List Frame} {meth : Method} {c : Code} {D : va_G} {cy : Nat → ClassId} {ad : Nat → Nat} {b : Nat} {la : Nat → Nat → Nat} {ν : gM} {P P0 : va_W}  {q1 : Nat → Nat → Int32}   {r : (Int32 × gM) ⊕ ((Bool) × gM)} {RES : (Bool) × gM} {CM SM : Nat} (F : gF p s m meth c cX8_areWays RX8 7 (some .boolean)) (E : hE l D cy ad b s) (hY : lY cy ad la ν P) (hPd : ∀ (μ : gM) (H : Heap), hW D cy ad b μ P [] H → hW D cy ad b μ P0 [] H) {da0 : Nat} {dr0 : Nat → Nat} (hD0 : ∀ x ∈ hmat cy da0 dr0 (lPt ν) q1, x ∈ P) (hcr : CM ≤ 17769) (hsr : SM ≤ 71544) (kx : ∀ (t : Int32 × gM) {H : Heap} {locs : List Loc} {ls : Array Slot}, r = .inl t → hW D cy ad b t.2 P [] H → va_S (hA b) s.heap H locs → lv_has ls 7 [(0, .ref (la 0 0)), (2, .int t.1)] → W p l e ({ frames := 7, cells := 17769, slots := 71544, locals := 166 } : Room) s m args below meth c H locs CM SM (MQ below (hQ b (fun rv H => rv = some (.int (b2i RES.1)) ∧ hW D cy ad b RES.2 P0 [] H)) args s 17769 71544 (hA b)) (F0 m 224 ls [])) (kr : ∀ x : (Bool) × gM, r = .inr x → x = RES) : ∀ (n : Nat) (x2 : Int32) (x3 : Int32)  (μ : gM) {cells slots : Nat}, cells + n * 1944 ≤ CM → slots + n * 7776 ≤ SM → gloop (fun t => b_L_areWays_10 q1 t.1 t.2.1 ν t.2.2) n (x2, x3, μ) = some r → ∀ {H : Heap} {locs : List Loc} {ls : Array Slot}, hW D cy ad b μ P [] H → va_S (hA b) s.heap H locs → lv_has ls 7 [(0, .ref (la 0 0)), (1, .ref da0), (2, .int x2), (3, .int x3)] → W p l e ({ frames := 7, cells := 17769, slots := 71544, locals := 166 } : Room) s m args below meth c H locs cells slots (MQ below (hQ b (fun rv H => rv = some (.int (b2i RES.1)) ∧ hW D cy ad b RES.2 P0 [] H)) args s 17769 71544 (hA b)) (F0 m 10 ls []) := by
  intro n
  induction n with
  | zero =>
    intro x2 x3 μ cells slots hc hs h
    exact (gloop_0 h).elim
  | succ n ih =>
    intro x2 x3 μ cells slots hc hs h H locs ls hM hS hl
    obtain ⟨o, h0, hcc, hq⟩ := gloop_s h
    have h1 : b_L_areWays_10 q1 x2 x3 ν μ = some o := h0
    exact wb_L_areWays_10 (C0 := cells + 1944) (S0 := slots + 7776) (CM := CM) (SM := SM) h1 F E hY hPd hD0 (by omega) (by omega) (by omega) (by omega) hcr hsr (fun t H locs ls ho hM hS hl => ih t.1 t.2.1 t.2.2 (by omega) (by omega) (hcc t ho) hM hS hl) (fun t H locs ls ho hM hS hl => kx t (hq _ ho).symm hM hS hl) (fun x ho => kr x (hq _ ho).symm) hM hS hl
def b_L_areWays_229 (x2 : Int32) (q1 : Nat → Nat → Int32) (x3 : Int32) (x4 : Int32) (ν μ : gM) : Option ((Int32 × Int32) ⊕ (Int32)) :=
  if ((gi ν 0 2) ≤ x4) then some (.inr x3) else gchk (gIn x4 (lLn ν)) (if ((gi ν 5 x4.toNatClampNeg) = 0) then some (.inl ((x3 ||| (0 : Int32)), (x4 + (1 : Int32)))) else Option.bind (f_L_distances x4 ν μ) (fun q39 => gchk (gIn x4 (lLn ν)) (gchk (gIn (gi ν (20 + x4.toNatClampNeg) 0) (lPt ν)) (gchk (gIn x4 (lLn ν)) (gchk (gIn (gi ν (20 + x4.toNatClampNeg) 1) (lPt ν)) (if ((q39 (gi ν (20 + x4.toNatClampNeg) 0).toNatClampNeg (gi ν (20 + x4.toNatClampNeg) 1).toNatClampNeg) < (1000000 : Int32)) then some (.inl ((x3 ||| (0 : Int32)), (x4 + (1 : Int32)))) else some (.inl ((x3 ||| ((1 : Int32) <<< (x4 &&& 31))), (x4 + (1 : Int32))))))))))
set_option maxHeartbeats 4000000 in
set_option maxRecDepth 100000 in
theorem wb_L_areWays_229 {p : Program} {l : Launch} {e : Env} {s : State} {m : MethodId} {args : Array Value} {below : List Frame} {meth : Method} {c : Code} {D : va_G} {cy : Nat → ClassId} {ad : Nat → Nat} {b : Nat} {la : Nat → Nat → Nat} {ν : gM} {P P0 : va_W} {x2 : Int32} {q1 : Nat → Nat → Int32} {x3 : Int32} {x4 : Int32} {μ : gM}  {o : (Int32 × Int32) ⊕ (Int32)} {RES : (Bool) × gM} {cells slots C0 S0 CM SM : Nat} (h : b_L_areWays_229 x2 q1 x3 x4 ν μ = some o) (F : gF p s m meth c cX8_areWays RX8 7 (some .boolean)) (E : hE l D cy ad b s) (hY : lY cy ad la ν P) (hPd : ∀ (μ : gM) (H : Heap), hW D cy ad b μ P [] H → hW D cy ad b μ P0 [] H) {da0 : Nat} {dr0 : Nat → Nat} (hD0 : ∀ x ∈ hmat cy da0 dr0 (lPt ν) q1, x ∈ P) (hc : cells + 21 ≤ C0) (hs : slots + 120 ≤ S0) (hcm : C0 ≤ CM) (hsm : S0 ≤ SM) (hcr : CM ≤ 17769) (hsr : SM ≤ 71544) (kc : ∀ (t : Int32 × Int32) {H : Heap} {locs : List Loc} {ls : Array Slot}, o = .inl t → hW D cy ad b μ P [] H → va_S (hA b) s.heap H locs → lv_has ls 7 [(0, .ref (la 0 0)), (2, .int x2), (3, .int t.1), (4, .int t.2)] → W p l e ({ frames := 7, cells := 17769, slots := 71544, locals := 166 } : Room) s m args below meth c H locs C0 S0 (MQ below (hQ b (fun rv H => rv = some (.int (b2i RES.1)) ∧ hW D cy ad b RES.2 P0 [] H)) args s 17769 71544 (hA b)) (F0 m 229 ls [])) (kx : ∀ (t : Int32) {H : Heap} {locs : List Loc} {ls : Array Slot}, o = .inr t → hW D cy ad b μ P [] H → va_S (hA b) s.heap H locs → lv_has ls 7 [(0, .ref (la 0 0)), (2, .int x2), (3, .int t)] → W p l e ({ frames := 7, cells := 17769, slots := 71544, locals := 166 } : Room) s m args below meth c H locs CM SM (MQ below (hQ b (fun rv H => rv = some (.int (b2i RES.1)) ∧ hW D cy ad b RES.2 P0 [] H)) args s 17769 71544 (hA b)) (F0 m 296 ls []))  {H : Heap} {locs : List Loc} {ls : Array Slot} (hM : hW D cy ad b μ P [] H) (hS : va_S (hA b) s.heap H locs) (hl : lv_has ls 7 [(0, .ref (la 0 0)), (2, .int x2), (3, .int x3), (4, .int x4)]) : W p l e ({ frames := 7, cells := 17769, slots := 71544, locals := 166 } : Room) s m args below meth c H locs cells slots (MQ below (hQ b (fun rv H => rv = some (.int (b2i RES.1)) ∧ hW D cy ad b RES.2 P0 [] H)) args s 17769 71544 (hA b)) (F0 m 229 ls []) := by
  obtain ⟨hx, hb, hml, hown, hlocks, hr⟩ := id F
  unfold b_L_areWays_229 at h
  refine lv_iload hx hb dX8_areWays_229 (lv_at hl 3 rfl) ?_
  refine lv_aload_n hx hb dX8_areWays_231 rfl (lv_at hl 0 rfl) ?_
  refine h_get hx hb hown E hM (hp_m (hY.c1 0 rfl)) gC_X8 2 (by decide) (v := .int (gi ν 0 2)) rfl kw_1026 dX8_areWays_232 ?_
  refine lv_icmp_ge (tgt := 296) hx hb dX8_areWays_235 (by decide) (fun c36 => ?_) (fun c36 => ?_)
  · replace h := gif_t c36 h
    refine W.widen (k := CM) (n := SM) (by omega) (by omega) ?_
    exact kx _ (Option.some.inj h).symm hM hS (lv_sub hl [0, 1, 2] rfl)
  · replace h := gif_f c36 h
    refine lv_iload_n hx hb dX8_areWays_238 rfl (lv_at hl 2 rfl) ?_
    refine lv_aload_n hx hb dX8_areWays_239 rfl (lv_at hl 0 rfl) ?_
    refine h_get hx hb hown E hM (hp_m (hY.c1 0 rfl)) gC_X8 7 (by decide) (v := .ref (la 5 0)) rfl kw_1031 dX8_areWays_240 ?_
    refine lv_iload hx hb dX8_areWays_243 (lv_at hl 3 rfl) ?_
    obtain ⟨c37, h⟩ := gchk_e h
    refine l_zald hx hb E hM (hp_m (hY.c1 5 rfl)) c37 (v := (gi ν 5 x4.toNatClampNeg)) rfl dX8_areWays_245 ?_
    refine lv_if_eq (tgt := 287) hx hb dX8_areWays_246 (by decide) (fun c38 => ?_) (fun c38 => ?_)
    · replace h := gif_t c38 h
      refine lv_iconst (v := (0 : Int32)) hx hb dX8_areWays_287 (by decide) ?_
      refine lv_ior hx hb dX8_areWays_288 ?_
      refine lv_istore_n (lv' := [(3, .int (x3 ||| (0 : Int32))), (0, .ref (la 0 0)), (2, .int x2), (4, .int x4)]) hx hb dX8_areWays_289 rfl hl (by decide) rfl (fun ls hl => ?_)
      refine lv_iinc (v := (x4 + (1 : Int32))) (lv' := [(4, .int (x4 + (1 : Int32))), (3, .int (x3 ||| (0 : Int32))), (0, .ref (la 0 0)), (2, .int x2)]) hx hb dX8_areWays_290 hl (k := 3) rfl rfl (by decide) rfl (fun ls hl => ?_)
      refine lv_goto (tgt := 229) hx hb dX8_areWays_293 (by decide) ?_
      refine W.widen (k := C0) (n := S0) (by omega) (by omega) ?_
      exact kc _ (Option.some.inj h).symm hM hS (lv_sub hl [2, 3, 1, 0] rfl)
    · replace h := gif_f c38 h
      refine lv_aload_n hx hb dX8_areWays_249 rfl (lv_at hl 0 rfl) ?_
      refine lv_iload hx hb dX8_areWays_250 (lv_at hl 3 rfl) ?_
      obtain ⟨q39, hq39, h⟩ := gbind_e h
      refine h_callV (As := [.int x4]) (rest := [.int x3]) hx hb (hml.trans hl.1.symm) hown E hM hS xy_X8_distances kw_1231 (c_L_distances hY hq39) (hp_m (hY.c1 0 rfl)) gC_X8.1 rfl rfl (Nat.le_of_ble_eq_true rfl) ⟨(Nat.le_of_ble_eq_true rfl), (Nat.le_of_ble_eq_true rfl)⟩ ⟨(show _ ≤ 17769 by omega), (show _ ≤ 71544 by omega)⟩ dX8_areWays_252 (fun rv H locs hZ hS => ?_)
      obtain ⟨a40, r41, rfl, hM⟩ := hZ
      refine lv_aload_n hx hb dX8_areWays_255 rfl (lv_at hl 0 rfl) ?_
      refine h_get hx hb hown E hM (hp_m (hY.c1 0 rfl)) gC_X8 5 (by decide) (v := .ref (la 3 0)) rfl kw_1029 dX8_areWays_256 ?_
      refine lv_iload hx hb dX8_areWays_259 (lv_at hl 3 rfl) ?_
      obtain ⟨c42, h⟩ := gchk_e h
      refine h_rald hx hb E hM (hp_m (hY.c1 3 rfl)) c42 (v := .ref (la 20 x4.toNatClampNeg)) (x_lrf c42) dX8_areWays_261 ?_
      refine lv_iconst (v := (0 : Int32)) hx hb dX8_areWays_262 (by decide) ?_
      refine l_iald hx hb E hM (hp_m (hY.c2 c42.2 0 rfl)) (⟨by decide, by decide⟩ : gIn (0 : Int32) 2) (v := (gi ν (20 + x4.toNatClampNeg) 0)) (congrArg (ν.1 (20 + x4.toNatClampNeg)) (by decide : (0 : Int32).toNatClampNeg = 0)) dX8_areWays_263 ?_
      obtain ⟨c44, h⟩ := gchk_e h
      refine h_rald hx hb E hM (ht_m hmat_o) c44 (v := .ref (r41 (gi ν (20 + x4.toNatClampNeg) 0).toNatClampNeg)) (x_lrf c44) dX8_areWays_264 ?_
      refine lv_aload_n hx hb dX8_areWays_265 rfl (lv_at hl 0 rfl) ?_
      refine h_get hx hb hown E hM (hp_m (hY.c1 0 rfl)) gC_X8 5 (by decide) (v := .ref (la 3 0)) rfl kw_1029 dX8_areWays_266 ?_
      refine lv_iload hx hb dX8_areWays_269 (lv_at hl 3 rfl) ?_
      obtain ⟨c45, h⟩ := gchk_e h
      refine h_rald hx hb E hM (hp_m (hY.c1 3 rfl)) c45 (v := .ref (la 20 x4.toNatClampNeg)) (x_lrf c45) dX8_areWays_271 ?_
      refine lv_iconst (v := (1 : Int32)) hx hb dX8_areWays_272 (by decide) ?_
      refine l_iald hx hb E hM (hp_m (hY.c2 c45.2 0 rfl)) (⟨by decide, by decide⟩ : gIn (1 : Int32) 2) (v := (gi ν (20 + x4.toNatClampNeg) 1)) (congrArg (ν.1 (20 + x4.toNatClampNeg)) (by decide : (1 : Int32).toNatClampNeg = 1)) dX8_areWays_273 ?_
      obtain ⟨c47, h⟩ := gchk_e h
      refine l_iald hx hb E hM (ht_m (hmat_r c44.2)) c47 (v := (q39 (gi ν (20 + x4.toNatClampNeg) 0).toNatClampNeg (gi ν (20 + x4.toNatClampNeg) 1).toNatClampNeg)) rfl dX8_areWays_274 ?_
      refine lv_ldc hx hb hown (v := (1000000 : Int32)) (E.kw kw_1211) dX8_areWays_275 ?_
      refine lv_icmp_lt (tgt := 287) hx hb dX8_areWays_277 (by decide) (fun c48 => ?_) (fun c48 => ?_)
      · replace h := gif_t c48 h
        refine lv_iconst (v := (0 : Int32)) hx hb dX8_areWays_287 (by decide) ?_
        refine lv_ior hx hb dX8_areWays_288 ?_
        refine lv_istore_n (lv' := [(3, .int (x3 ||| (0 : Int32))), (0, .ref (la 0 0)), (2, .int x2), (4, .int x4)]) hx hb dX8_areWays_289 rfl hl (by decide) rfl (fun ls hl => ?_)
        refine lv_iinc (v := (x4 + (1 : Int32))) (lv' := [(4, .int (x4 + (1 : Int32))), (3, .int (x3 ||| (0 : Int32))), (0, .ref (la 0 0)), (2, .int x2)]) hx hb dX8_areWays_290 hl (k := 3) rfl rfl (by decide) rfl (fun ls hl => ?_)
        refine lv_goto (tgt := 229) hx hb dX8_areWays_293 (by decide) ?_
        replace hM := hW.drop hM
        refine W.widen (k := C0) (n := S0) (by omega) (by omega) ?_
        exact kc _ (Option.some.inj h).symm hM hS (lv_sub hl [2, 3, 1, 0] rfl)
      · replace h := gif_f c48 h
        refine lv_iconst (v := (1 : Int32)) hx hb dX8_areWays_280 (by decide) ?_
        refine lv_iload hx hb dX8_areWays_281 (lv_at hl 3 rfl) ?_
        refine lv_ishl hx hb dX8_areWays_283 ?_
        refine lv_goto (tgt := 288) hx hb dX8_areWays_284 (by decide) ?_
        refine lv_ior hx hb dX8_areWays_288 ?_
        refine lv_istore_n (lv' := [(3, .int (x3 ||| ((1 : Int32) <<< (x4 &&& 31)))), (0, .ref (la 0 0)), (2, .int x2), (4, .int x4)]) hx hb dX8_areWays_289 rfl hl (by decide) rfl (fun ls hl => ?_)
        refine lv_iinc (v := (x4 + (1 : Int32))) (lv' := [(4, .int (x4 + (1 : Int32))), (3, .int (x3 ||| ((1 : Int32) <<< (x4 &&& 31)))), (0, .ref (la 0 0)), (2, .int x2)]) hx hb dX8_areWays_290 hl (k := 3) rfl rfl (by decide) rfl (fun ls hl => ?_)
        refine lv_goto (tgt := 229) hx hb dX8_areWays_293 (by decide) ?_
        replace hM := hW.drop hM
        refine W.widen (k := C0) (n := S0) (by omega) (by omega) ?_
        exact kc _ (Option.some.inj h).symm hM hS (lv_sub hl [2, 3, 1, 0] rfl)
set_option maxHeartbeats 4000000 in
theorem wl_L_areWays_229 {p : Program} {l : Launch} {e : Env} {s : State} {m : MethodId} {args : Array Value} {below : List Frame} {meth : Method} {c : Code} {D : va_G} {cy : Nat → ClassId} {ad : Nat → Nat} {b : Nat} {la : Nat → Nat → Nat} {ν : gM} {P P0 : va_W} {x2 : Int32} {q1 : Nat → Nat → Int32} {μ : gM}  {r : Int32} {RES : (Bool) × gM} {CM SM : Nat} (F : gF p s m meth c cX8_areWays RX8 7 (some .boolean)) (E : hE l D cy ad b s) (hY : lY cy ad la ν P) (hPd : ∀ (μ : gM) (H : Heap), hW D cy ad b μ P [] H → hW D cy ad b μ P0 [] H) {da0 : Nat} {dr0 : Nat → Nat} (hD0 : ∀ x ∈ hmat cy da0 dr0 (lPt ν) q1, x ∈ P) (hcr : CM ≤ 17769) (hsr : SM ≤ 71544) (kx : ∀ (t : Int32) {H : Heap} {locs : List Loc} {ls : Array Slot}, r = t → hW D cy ad b μ P [] H → va_S (hA b) s.heap H locs → lv_has ls 7 [(0, .ref (la 0 0)), (2, .int x2), (3, .int t)] → W p l e ({ frames := 7, cells := 17769, slots := 71544, locals := 166 } : Room) s m args below meth c H locs CM SM (MQ below (hQ b (fun rv H => rv = some (.int (b2i RES.1)) ∧ hW D cy ad b RES.2 P0 [] H)) args s 17769 71544 (hA b)) (F0 m 296 ls []))  : ∀ (n : Nat) (x3 : Int32) (x4 : Int32)  {cells slots : Nat}, cells + n * 21 ≤ CM → slots + n * 120 ≤ SM → gloop (fun t => b_L_areWays_229 x2 q1 t.1 t.2 ν μ) n (x3, x4) = some r → ∀ {H : Heap} {locs : List Loc} {ls : Array Slot}, hW D cy ad b μ P [] H → va_S (hA b) s.heap H locs → lv_has ls 7 [(0, .ref (la 0 0)), (2, .int x2), (3, .int x3), (4, .int x4)] → W p l e ({ frames := 7, cells := 17769, slots := 71544, locals := 166 } : Room) s m args below meth c H locs cells slots (MQ below (hQ b (fun rv H => rv = some (.int (b2i RES.1)) ∧ hW D cy ad b RES.2 P0 [] H)) args s 17769 71544 (hA b)) (F0 m 229 ls []) := by
  intro n
  induction n with
  | zero =>
    intro x3 x4 cells slots hc hs h
    exact (gloop_0 h).elim
  | succ n ih =>
    intro x3 x4 cells slots hc hs h H locs ls hM hS hl
    obtain ⟨o, h0, hcc, hq⟩ := gloop_s h
    have h1 : b_L_areWays_229 x2 q1 x3 x4 ν μ = some o := h0
    exact wb_L_areWays_229 (C0 := cells + 21) (S0 := slots + 120) (CM := CM) (SM := SM) h1 F E hY hPd hD0 (by omega) (by omega) (by omega) (by omega) hcr hsr (fun t H locs ls ho hM hS hl => ih t.1 t.2 (by omega) (by omega) (hcc t ho) hM hS hl) (fun t H locs ls ho hM hS hl => kx t (hq _ ho).symm hM hS hl) hM hS hl
def f_L_areWays  (ν μ : gM) : Option ((Bool) × gM) :=
  Option.bind (f_L_distances (-1 : Int32) ν μ) (fun q1 => Option.bind (gloop (fun t => b_L_areWays_10 q1 t.1 t.2.1 ν t.2.2) 9 ((0 : Int32), (0 : Int32), μ)) (fun q34 => Sum.elim (fun t35 => Option.bind (gloop (fun t => b_L_areWays_229 t35.1 q1 t.1 t.2 ν t35.2) 12 ((0 : Int32), (0 : Int32))) (fun q49 => Option.bind (f_X7_partCount  t35.2) (fun q50 => if (q50.1 = t35.1) then Option.bind (f_X7_bridges  q50.2) (fun q52 => if (q52.1 = q49) then some (true, q52.2) else some (false, q52.2)) else some (false, q50.2)))) (fun x => some x) q34))
set_option maxHeartbeats 4000000 in
set_option maxRecDepth 100000 in
theorem c_L_areWays {l : Launch} {D : va_G} {cy : Nat → ClassId} {ad : Nat → Nat} {b : Nat} {la : Nat → Nat → Nat} {μ ν : gM} {P : va_W}  {RES : (Bool) × gM} (hY : lY cy ad la ν P) (h : f_L_areWays  ν μ = some RES) : Met l yX8_areWays [.code yX8_areWays cX8_areWays 7 (some .boolean)] ({ frames := 7, cells := 17769, slots := 71544, locals := 166 } : Room) (va_Pc [.ref (la 0 0)] (hB l D cy ad b μ P [])) (hQ b (fun rv H => rv = some (.int (b2i RES.1)) ∧ hW D cy ad b RES.2 P [] H)) 17769 71544 (hA b) := by
  refine Met.ofW (cc := cX8_areWays) (maxL := 7) (ret := (some .boolean)) (by decide +kernel) rfl ?_
  intro p e s m args below meth c s₁ B hml0 hv
  obtain ⟨rfl, E, hM⟩ := hv
  have F : gF p s m meth c cX8_areWays RX8 7 (some .boolean) := gF_of B hml0
  obtain ⟨hx, hb, hml, hown, hlocks, hr⟩ := id F
  have hS : va_S (hA b) s.heap s.heap [] := va_S.rf
  have hl := lv_entry ([.ref (la 0 0)]) (n := 7) (Nat.le_of_ble_eq_true rfl)
  rw [lg_entry_eq]
  generalize (lg_sl ([.ref (la 0 0)]) ++ List.replicate (7 - (lg_sl ([.ref (la 0 0)])).length) Slot.unset).toArray = ls at hl ⊢
  have hl : lv_has ls 7 [(0, .ref (la 0 0))] := hl
  unfold f_L_areWays at h
  refine lv_aload_n hx hb dX8_areWays_0 rfl (lv_at hl 0 rfl) ?_
  refine lv_iconst (v := (-1 : Int32)) hx hb dX8_areWays_1 (by decide) ?_
  obtain ⟨q1, hq1, h⟩ := gbind_e h
  refine h_callV (As := [.int (-1 : Int32)]) (rest := []) hx hb (hml.trans hl.1.symm) hown E hM hS xy_X8_distances kw_1231 (c_L_distances hY hq1) (hp_m (hY.c1 0 rfl)) gC_X8.1 rfl rfl (Nat.le_of_ble_eq_true rfl) ⟨(Nat.le_of_ble_eq_true rfl), (Nat.le_of_ble_eq_true rfl)⟩ ⟨(show _ ≤ 17769 by omega), (show _ ≤ 71544 by omega)⟩ dX8_areWays_2 (fun rv H locs hZ hS => ?_)
  obtain ⟨a2, r3, rfl, hM⟩ := hZ
  replace hM : hW D cy ad b μ (P ++ hmat cy a2 r3 (lPt ν) q1) [] H := hW.low hM
  have hY2 : lY cy ad la ν (P ++ hmat cy a2 r3 (lPt ν) q1) := hY.app _
  have hD2 : ∀ x ∈ hmat cy a2 r3 (lPt ν) q1, x ∈ P ++ hmat cy a2 r3 (lPt ν) q1 := fun x hx => List.mem_append_right _ hx
  have hPd2 : ∀ (μ : gM) (H : Heap), hW D cy ad b μ (P ++ hmat cy a2 r3 (lPt ν) q1) [] H → hW D cy ad b μ P [] H := fun μ H hM => hW.drop (hW.up hM)
  refine lv_astore_n (lv' := [(1, .ref a2), (0, .ref (la 0 0))]) hx hb dX8_areWays_5 rfl hl (by decide) rfl (fun ls hl => ?_)
  refine lv_iconst (v := (0 : Int32)) hx hb dX8_areWays_6 (by decide) ?_
  refine lv_istore_n (lv' := [(2, .int (0 : Int32)), (1, .ref a2), (0, .ref (la 0 0))]) hx hb dX8_areWays_7 rfl hl (by decide) rfl (fun ls hl => ?_)
  refine lv_iconst (v := (0 : Int32)) hx hb dX8_areWays_8 (by decide) ?_
  refine lv_istore_n (lv' := [(3, .int (0 : Int32)), (2, .int (0 : Int32)), (1, .ref a2), (0, .ref (la 0 0))]) hx hb dX8_areWays_9 rfl hl (by decide) rfl (fun ls hl => ?_)
  obtain ⟨q34, h1, h⟩ := gbind_e h
  refine wl_L_areWays_10 (CM := 17517) (SM := 70104) F E hY2 hPd2 hD2 (by omega) (by omega) (r := q34) (fun t35 H locs ls e1 hM hS hl => ?_) (fun x ex => ?_) 9 (0 : Int32) (0 : Int32) μ (by omega) (by omega) h1 hM hS (lv_sub hl [3, 2, 1, 0] rfl)
  · replace h := gsum_l e1 h
    refine lv_iconst (v := (0 : Int32)) hx hb dX8_areWays_224 (by decide) ?_
    refine lv_istore_n (lv' := [(3, .int (0 : Int32)), (0, .ref (la 0 0)), (2, .int t35.1)]) hx hb dX8_areWays_225 rfl hl (by decide) rfl (fun ls hl => ?_)
    refine lv_iconst (v := (0 : Int32)) hx hb dX8_areWays_226 (by decide) ?_
    refine lv_istore (lv' := [(4, .int (0 : Int32)), (3, .int (0 : Int32)), (0, .ref (la 0 0)), (2, .int t35.1)]) hx hb dX8_areWays_227 hl (by decide) rfl (fun ls hl => ?_)
    obtain ⟨z54, h1, h⟩ := gbind_e h
    refine wl_L_areWays_229 (CM := 17769) (SM := 71544) F E hY2 hPd2 hD2 (by omega) (by omega) (r := z54) (fun q49 H locs ls e1 hM hS hl => ?_) 12 (0 : Int32) (0 : Int32) (by omega) (by omega) h1 hM hS (lv_sub hl [2, 3, 1, 0] rfl)
    replace e1 : z54 = q49 := e1
    rw [e1] at h
    refine lv_aload_n hx hb dX8_areWays_296 rfl (lv_at hl 0 rfl) ?_
    refine h_get hx hb hown E hM (hp_m (hY2.c1 0 rfl)) gC_X8 0 (by decide) (v := .ref (ad 0)) rfl kw_1023 dX8_areWays_297 ?_
    obtain ⟨q50, hq50, h⟩ := gbind_e h
    refine h_callC (As := []) (rest := []) hx hb (hml.trans hl.1.symm) hown E hM hS hy_X7_partCount kw_1291 (c_X7_partCount hq50) hk_0 dd_0 rfl rfl rfl (Nat.le_of_ble_eq_true rfl) ⟨(Nat.le_of_ble_eq_true rfl), (Nat.le_of_ble_eq_true rfl)⟩ ⟨(show _ ≤ 17769 by omega), (show _ ≤ 71544 by omega)⟩ dX8_areWays_300 (fun H locs hM hS => ?_)
    refine lv_iload_n hx hb dX8_areWays_303 rfl (lv_at hl 1 rfl) ?_
    refine lv_icmp_ne (tgt := 322) hx hb dX8_areWays_304 (by decide) (fun c51 => ?_) (fun c51 => ?_)
    · replace h := gif_f c51 h
      refine lv_iconst (v := (0 : Int32)) hx hb dX8_areWays_322 (by decide) ?_
      obtain rfl := Option.some.inj h
      exact h_zret (v := b2i false) hx hb hr hlocks (by omega) (by omega) (b2i_nar false) ⟨rfl, hPd2 _ _ (hW.drop hM)⟩ hS dX8_areWays_323
    · replace h := gif_t c51 h
      refine lv_aload_n hx hb dX8_areWays_307 rfl (lv_at hl 0 rfl) ?_
      refine h_get hx hb hown E hM (hp_m (hY2.c1 0 rfl)) gC_X8 0 (by decide) (v := .ref (ad 0)) rfl kw_1023 dX8_areWays_308 ?_
      obtain ⟨q52, hq52, h⟩ := gbind_e h
      refine h_callC (As := []) (rest := []) hx hb (hml.trans hl.1.symm) hown E hM hS hy_X7_bridges kw_1295 (c_X7_bridges hq52) hk_0 dd_0 rfl rfl rfl (Nat.le_of_ble_eq_true rfl) ⟨(Nat.le_of_ble_eq_true rfl), (Nat.le_of_ble_eq_true rfl)⟩ ⟨(show _ ≤ 17769 by omega), (show _ ≤ 71544 by omega)⟩ dX8_areWays_311 (fun H locs hM hS => ?_)
      refine lv_iload_n hx hb dX8_areWays_314 rfl (lv_at hl 2 rfl) ?_
      refine lv_icmp_ne (tgt := 322) hx hb dX8_areWays_315 (by decide) (fun c53 => ?_) (fun c53 => ?_)
      · replace h := gif_f c53 h
        refine lv_iconst (v := (0 : Int32)) hx hb dX8_areWays_322 (by decide) ?_
        obtain rfl := Option.some.inj h
        exact h_zret (v := b2i false) hx hb hr hlocks (by omega) (by omega) (b2i_nar false) ⟨rfl, hPd2 _ _ (hW.drop hM)⟩ hS dX8_areWays_323
      · replace h := gif_t c53 h
        refine lv_iconst (v := (1 : Int32)) hx hb dX8_areWays_318 (by decide) ?_
        refine lv_goto (tgt := 323) hx hb dX8_areWays_319 (by decide) ?_
        obtain rfl := Option.some.inj h
        exact h_zret (v := b2i true) hx hb hr hlocks (by omega) (by omega) (b2i_nar true) ⟨rfl, hPd2 _ _ (hW.drop hM)⟩ hS dX8_areWays_323
  · exact Option.some.inj (gsum_r ex h)

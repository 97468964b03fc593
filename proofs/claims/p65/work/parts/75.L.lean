theorem gnm {α β : Type} {v : α} {f : α → Option β} {o : β} (h : Option.bind (some v) f = some o) : ∃ x, x = v ∧ f x = some o := ⟨v, rfl, h⟩
theorem x_set (W0 lw : va_W) (j : Nat) (x : Nat × va_E) : (W0 ++ lw).set (W0.length + j) x = W0 ++ lw.set j x := by
  rw [List.set_append_right _ _ (Nat.le_add_right _ _), Nat.add_sub_cancel_left]
theorem x_get {W0 lw : va_W} {j : Nat} {x : Nat × va_E} (h : lw[j]? = some x) : (W0 ++ lw)[W0.length + j]? = some x := by
  rw [List.getElem?_append_right (Nat.le_add_right _ _), Nat.add_sub_cancel_left]; exact h
/-! the fields that are there while the lists are in the making -/
section LYN
variable {cy : Nat → ClassId} {ad : Nat → Nat} {la : Nat → Nat → Nat} {ν : gM} {P : va_W}
theorem lY0.n0 (h : lY0 cy ad la ν P) : (la 0 0, lO ad la ν) ∈ P := h.c1 0 (by decide) (by decide) (by decide)
theorem lY0.n1 (h : lY0 cy ad la ν P) : (la 1 0, .inl (cy 0, 2, .inl (ν.1 1))) ∈ P := h.c1 1 (by decide) (by decide) (by decide)
theorem lY0.n2 (h : lY0 cy ad la ν P) : (la 2 0, .inl (cy 0, 16, .inl (ν.1 2))) ∈ P := h.c1 2 (by decide) (by decide) (by decide)
theorem lY0.n3 (h : lY0 cy ad la ν P) : (la 3 0, .inl (cy 5, lLn ν, .inr (.inr (.inr (.inr (lRf (lLn ν) (la 20))))))) ∈ P := h.c1 3 (by decide) (by decide) (by decide)
theorem lY0.n4 (h : lY0 cy ad la ν P) : (la 4 0, .inl (cy 0, lLn ν, .inl (ν.1 4))) ∈ P := h.c1 4 (by decide) (by decide) (by decide)
theorem lY0.n5 (h : lY0 cy ad la ν P) : (la 5 0, .inl (cy 3, lLn ν, .inl (ν.1 5))) ∈ P := h.c1 5 (by decide) (by decide) (by decide)
theorem lY0.n8 (h : lY0 cy ad la ν P) : (la 8 0, .inl (cy 0, 3, .inl (ν.1 8))) ∈ P := h.c1 8 (by decide) (by decide) (by decide)
end LYN
theorem xi_Jx4a65c_init_da8c8 : gYI yJx4a65c_init_da8c8 cJx4a65c_init_da8c8 1 0 := ⟨kw_515, kw_61, kw_514, ⟨by decide +kernel, by decide +kernel⟩, by decide +kernel, rfl⟩
theorem xy_J4_append_cf468 : gYV yJ4_append_cf468 cJ4_append_cf468 2 (some (.object "java/lang/StringBuilder")) 1 := ⟨kw_789, kw_63, kw_787, kw_788, ⟨by decide +kernel, by decide +kernel⟩, by decide +kernel⟩
theorem xy_J4_append_bf812 : gYV yJ4_append_bf812 cJ4_append_bf812 2 (some (.object "java/lang/StringBuilder")) 1 := ⟨kw_702, kw_63, kw_700, kw_701, ⟨by decide +kernel, by decide +kernel⟩, by decide +kernel⟩
theorem dX8_line_0 : decode cX8_line 0 = .ok (.iload_n 2, 1) := by decide +kernel
theorem dX8_line_1 : decode cX8_line 1 = .ok (.aload_n 0, 1) := by decide +kernel
theorem dX8_line_2 : decode cX8_line 2 = .ok (.getfield 43, 3) := by decide +kernel
theorem dX8_line_5 : decode cX8_line 5 = .ok (.invokestatic 39, 3) := by decide +kernel
theorem dX8_line_8 : decode cX8_line 8 = .ok (.istore_n 3, 1) := by decide +kernel
theorem dX8_line_9 : decode cX8_line 9 = .ok (.iload_n 3, 1) := by decide +kernel
theorem dX8_line_10 : decode cX8_line 10 = .ok (.iconst 1, 1) := by decide +kernel
theorem dX8_line_11 : decode cX8_line 11 = .ok (.iadd, 1) := by decide +kernel
theorem dX8_line_12 : decode cX8_line 12 = .ok (.iload_n 2, 1) := by decide +kernel
theorem dX8_line_13 : decode cX8_line 13 = .ok (.iconst 4, 1) := by decide +kernel
theorem dX8_line_14 : decode cX8_line 14 = .ok (.ishr, 1) := by decide +kernel
theorem dX8_line_15 : decode cX8_line 15 = .ok (.aload_n 0, 1) := by decide +kernel
theorem dX8_line_16 : decode cX8_line 16 = .ok (.getfield 43, 3) := by decide +kernel
theorem dX8_line_19 : decode cX8_line 19 = .ok (.iconst 1, 1) := by decide +kernel
theorem dX8_line_20 : decode cX8_line 20 = .ok (.isub, 1) := by decide +kernel
theorem dX8_line_21 : decode cX8_line 21 = .ok (.invokestatic 39, 3) := by decide +kernel
theorem dX8_line_24 : decode cX8_line 24 = .ok (.iadd, 1) := by decide +kernel
theorem dX8_line_25 : decode cX8_line 25 = .ok (.aload_n 0, 1) := by decide +kernel
theorem dX8_line_26 : decode cX8_line 26 = .ok (.getfield 43, 3) := by decide +kernel
theorem dX8_line_29 : decode cX8_line 29 = .ok (.irem, 1) := by decide +kernel
theorem dX8_line_30 : decode cX8_line 30 = .ok (.istore 4, 2) := by decide +kernel
theorem dX8_line_32 : decode cX8_line 32 = .ok (.aload_n 0, 1) := by decide +kernel
theorem dX8_line_33 : decode cX8_line 33 = .ok (.getfield 52, 3) := by decide +kernel
theorem dX8_line_36 : decode cX8_line 36 = .ok (.iload_n 1, 1) := by decide +kernel
theorem dX8_line_37 : decode cX8_line 37 = .ok (.aaload, 1) := by decide +kernel
theorem dX8_line_38 : decode cX8_line 38 = .ok (.iconst 0, 1) := by decide +kernel
theorem dX8_line_39 : decode cX8_line 39 = .ok (.iload_n 3, 1) := by decide +kernel
theorem dX8_line_40 : decode cX8_line 40 = .ok (.iastore, 1) := by decide +kernel
theorem dX8_line_41 : decode cX8_line 41 = .ok (.aload_n 0, 1) := by decide +kernel
theorem dX8_line_42 : decode cX8_line 42 = .ok (.getfield 52, 3) := by decide +kernel
theorem dX8_line_45 : decode cX8_line 45 = .ok (.iload_n 1, 1) := by decide +kernel
theorem dX8_line_46 : decode cX8_line 46 = .ok (.aaload, 1) := by decide +kernel
theorem dX8_line_47 : decode cX8_line 47 = .ok (.iconst 1, 1) := by decide +kernel
theorem dX8_line_48 : decode cX8_line 48 = .ok (.iload 4, 2) := by decide +kernel
theorem dX8_line_50 : decode cX8_line 50 = .ok (.iastore, 1) := by decide +kernel
theorem dX8_line_51 : decode cX8_line 51 = .ok (.aload_n 0, 1) := by decide +kernel
theorem dX8_line_52 : decode cX8_line 52 = .ok (.getfield 55, 3) := by decide +kernel
theorem dX8_line_55 : decode cX8_line 55 = .ok (.iload_n 1, 1) := by decide +kernel
theorem dX8_line_56 : decode cX8_line 56 = .ok (.iload_n 2, 1) := by decide +kernel
theorem dX8_line_57 : decode cX8_line 57 = .ok (.bipush 8, 2) := by decide +kernel
theorem dX8_line_59 : decode cX8_line 59 = .ok (.ishr, 1) := by decide +kernel
theorem dX8_line_60 : decode cX8_line 60 = .ok (.iconst 1, 1) := by decide +kernel
theorem dX8_line_61 : decode cX8_line 61 = .ok (.iand, 1) := by decide +kernel
theorem dX8_line_62 : decode cX8_line 62 = .ok (.iastore, 1) := by decide +kernel
theorem dX8_line_63 : decode cX8_line 63 = .ok (.aload_n 0, 1) := by decide +kernel
theorem dX8_line_64 : decode cX8_line 64 = .ok (.getfield 58, 3) := by decide +kernel
theorem dX8_line_67 : decode cX8_line 67 = .ok (.iload_n 1, 1) := by decide +kernel
theorem dX8_line_68 : decode cX8_line 68 = .ok (.iconst 1, 1) := by decide +kernel
theorem dX8_line_69 : decode cX8_line 69 = .ok (.bastore, 1) := by decide +kernel
theorem dX8_line_70 : decode cX8_line 70 = .ok (.aload_n 0, 1) := by decide +kernel
theorem dX8_line_71 : decode cX8_line 71 = .ok (.getfield 28, 3) := by decide +kernel
theorem dX8_line_74 : decode cX8_line 74 = .ok (.new 25, 3) := by decide +kernel
theorem dX8_line_77 : decode cX8_line 77 = .ok (.dup, 1) := by decide +kernel
theorem dX8_line_78 : decode cX8_line 78 = .ok (.invokespecial 27, 3) := by decide +kernel
theorem dX8_line_81 : decode cX8_line 81 = .ok (.invokevirtual 119, 3) := by decide +kernel
theorem dX8_line_84 : decode cX8_line 84 = .ok (.pop, 1) := by decide +kernel
theorem dX8_line_85 : decode cX8_line 85 = .ok (.new 62, 3) := by decide +kernel
theorem dX8_line_88 : decode cX8_line 88 = .ok (.dup, 1) := by decide +kernel
theorem dX8_line_89 : decode cX8_line 89 = .ok (.invokespecial 64, 3) := by decide +kernel
theorem dX8_line_92 : decode cX8_line 92 = .ok (.ldc 123, 2) := by decide +kernel
theorem dX8_line_94 : decode cX8_line 94 = .ok (.invokevirtual 67, 3) := by decide +kernel
theorem dX8_line_97 : decode cX8_line 97 = .ok (.bipush 97, 2) := by decide +kernel
theorem dX8_line_99 : decode cX8_line 99 = .ok (.iload_n 3, 1) := by decide +kernel
theorem dX8_line_100 : decode cX8_line 100 = .ok (.iadd, 1) := by decide +kernel
theorem dX8_line_101 : decode cX8_line 101 = .ok (.i2c, 1) := by decide +kernel
theorem dX8_line_102 : decode cX8_line 102 = .ok (.invokevirtual 82, 3) := by decide +kernel
theorem dX8_line_105 : decode cX8_line 105 = .ok (.ldc 125, 2) := by decide +kernel
theorem dX8_line_107 : decode cX8_line 107 = .ok (.invokevirtual 67, 3) := by decide +kernel
theorem dX8_line_110 : decode cX8_line 110 = .ok (.bipush 97, 2) := by decide +kernel
theorem dX8_line_112 : decode cX8_line 112 = .ok (.iload 4, 2) := by decide +kernel
theorem dX8_line_114 : decode cX8_line 114 = .ok (.iadd, 1) := by decide +kernel
theorem dX8_line_115 : decode cX8_line 115 = .ok (.i2c, 1) := by decide +kernel
theorem dX8_line_116 : decode cX8_line 116 = .ok (.invokevirtual 82, 3) := by decide +kernel
theorem dX8_line_119 : decode cX8_line 119 = .ok (.ldc 127, 2) := by decide +kernel
theorem dX8_line_121 : decode cX8_line 121 = .ok (.invokevirtual 67, 3) := by decide +kernel
theorem dX8_line_124 : decode cX8_line 124 = .ok (.bipush 97, 2) := by decide +kernel
theorem dX8_line_126 : decode cX8_line 126 = .ok (.aload_n 0, 1) := by decide +kernel
theorem dX8_line_127 : decode cX8_line 127 = .ok (.getfield 55, 3) := by decide +kernel
theorem dX8_line_130 : decode cX8_line 130 = .ok (.iload_n 1, 1) := by decide +kernel
theorem dX8_line_131 : decode cX8_line 131 = .ok (.iaload, 1) := by decide +kernel
theorem dX8_line_132 : decode cX8_line 132 = .ok (.iadd, 1) := by decide +kernel
theorem dX8_line_133 : decode cX8_line 133 = .ok (.i2c, 1) := by decide +kernel
theorem dX8_line_134 : decode cX8_line 134 = .ok (.invokevirtual 82, 3) := by decide +kernel
theorem dX8_line_137 : decode cX8_line 137 = .ok (.invokevirtual 76, 3) := by decide +kernel
theorem dX8_line_140 : decode cX8_line 140 = .ok (.astore 5, 2) := by decide +kernel
theorem dX8_line_142 : decode cX8_line 142 = .ok (.iconst 0, 1) := by decide +kernel
theorem dX8_line_143 : decode cX8_line 143 = .ok (.istore 6, 2) := by decide +kernel
theorem dX8_line_145 : decode cX8_line 145 = .ok (.iload 6, 2) := by decide +kernel
theorem dX8_line_147 : decode cX8_line 147 = .ok (.iload_n 2, 1) := by decide +kernel
theorem dX8_line_148 : decode cX8_line 148 = .ok (.bipush 9, 2) := by decide +kernel
theorem dX8_line_150 : decode cX8_line 150 = .ok (.ishr, 1) := by decide +kernel
theorem dX8_line_151 : decode cX8_line 151 = .ok (.iconst 3, 1) := by decide +kernel
theorem dX8_line_152 : decode cX8_line 152 = .ok (.invokestatic 39, 3) := by decide +kernel
theorem dX8_line_155 : decode cX8_line 155 = .ok (.if_icmp .gt 152, 3) := by decide +kernel
theorem dX8_line_158 : decode cX8_line 158 = .ok (.iconst 4, 1) := by decide +kernel
theorem dX8_line_159 : decode cX8_line 159 = .ok (.newarray .int, 2) := by decide +kernel
theorem dX8_line_161 : decode cX8_line 161 = .ok (.dup, 1) := by decide +kernel
theorem dX8_line_162 : decode cX8_line 162 = .ok (.iconst 0, 1) := by decide +kernel
theorem dX8_line_163 : decode cX8_line 163 = .ok (.iload_n 2, 1) := by decide +kernel
theorem dX8_line_164 : decode cX8_line 164 = .ok (.iload 6, 2) := by decide +kernel
theorem dX8_line_166 : decode cX8_line 166 = .ok (.ishr, 1) := by decide +kernel
theorem dX8_line_167 : decode cX8_line 167 = .ok (.sipush 4000, 3) := by decide +kernel
theorem dX8_line_170 : decode cX8_line 170 = .ok (.invokestatic 39, 3) := by decide +kernel
theorem dX8_line_173 : decode cX8_line 173 = .ok (.iastore, 1) := by decide +kernel
theorem dX8_line_174 : decode cX8_line 174 = .ok (.dup, 1) := by decide +kernel
theorem dX8_line_175 : decode cX8_line 175 = .ok (.iconst 1, 1) := by decide +kernel
theorem dX8_line_176 : decode cX8_line 176 = .ok (.iload_n 2, 1) := by decide +kernel
theorem dX8_line_177 : decode cX8_line 177 = .ok (.iconst 3, 1) := by decide +kernel
theorem dX8_line_178 : decode cX8_line 178 = .ok (.iload 6, 2) := by decide +kernel
theorem dX8_line_180 : decode cX8_line 180 = .ok (.iadd, 1) := by decide +kernel
theorem dX8_line_181 : decode cX8_line 181 = .ok (.ishr, 1) := by decide +kernel
theorem dX8_line_182 : decode cX8_line 182 = .ok (.sipush 4000, 3) := by decide +kernel
theorem dX8_line_185 : decode cX8_line 185 = .ok (.invokestatic 39, 3) := by decide +kernel
theorem dX8_line_188 : decode cX8_line 188 = .ok (.iastore, 1) := by decide +kernel
theorem dX8_line_189 : decode cX8_line 189 = .ok (.dup, 1) := by decide +kernel
theorem dX8_line_190 : decode cX8_line 190 = .ok (.iconst 2, 1) := by decide +kernel
theorem dX8_line_191 : decode cX8_line 191 = .ok (.iconst 1, 1) := by decide +kernel
theorem dX8_line_192 : decode cX8_line 192 = .ok (.iload_n 2, 1) := by decide +kernel
theorem dX8_line_193 : decode cX8_line 193 = .ok (.bipush 11, 2) := by decide +kernel
theorem dX8_line_195 : decode cX8_line 195 = .ok (.iload 6, 2) := by decide +kernel
theorem dX8_line_197 : decode cX8_line 197 = .ok (.iadd, 1) := by decide +kernel
theorem dX8_line_198 : decode cX8_line 198 = .ok (.ishr, 1) := by decide +kernel
theorem dX8_line_199 : decode cX8_line 199 = .ok (.bipush 90, 2) := by decide +kernel
theorem dX8_line_201 : decode cX8_line 201 = .ok (.invokestatic 39, 3) := by decide +kernel
theorem dX8_line_204 : decode cX8_line 204 = .ok (.iadd, 1) := by decide +kernel
theorem dX8_line_205 : decode cX8_line 205 = .ok (.iastore, 1) := by decide +kernel
theorem dX8_line_206 : decode cX8_line 206 = .ok (.dup, 1) := by decide +kernel
theorem dX8_line_207 : decode cX8_line 207 = .ok (.iconst 3, 1) := by decide +kernel
theorem dX8_line_208 : decode cX8_line 208 = .ok (.iconst 1, 1) := by decide +kernel
theorem dX8_line_209 : decode cX8_line 209 = .ok (.iload_n 2, 1) := by decide +kernel
theorem dX8_line_210 : decode cX8_line 210 = .ok (.bipush 15, 2) := by decide +kernel
theorem dX8_line_212 : decode cX8_line 212 = .ok (.iload 6, 2) := by decide +kernel
theorem dX8_line_214 : decode cX8_line 214 = .ok (.iadd, 1) := by decide +kernel
theorem dX8_line_215 : decode cX8_line 215 = .ok (.ishr, 1) := by decide +kernel
theorem dX8_line_216 : decode cX8_line 216 = .ok (.bipush 90, 2) := by decide +kernel
theorem dX8_line_218 : decode cX8_line 218 = .ok (.invokestatic 39, 3) := by decide +kernel
theorem dX8_line_221 : decode cX8_line 221 = .ok (.iadd, 1) := by decide +kernel
theorem dX8_line_222 : decode cX8_line 222 = .ok (.iastore, 1) := by decide +kernel
theorem dX8_line_223 : decode cX8_line 223 = .ok (.astore 7, 2) := by decide +kernel
theorem dX8_line_225 : decode cX8_line 225 = .ok (.aload_n 0, 1) := by decide +kernel
theorem dX8_line_226 : decode cX8_line 226 = .ok (.getfield 28, 3) := by decide +kernel
theorem dX8_line_229 : decode cX8_line 229 = .ok (.iload_n 1, 1) := by decide +kernel
theorem dX8_line_230 : decode cX8_line 230 = .ok (.invokevirtual 129, 3) := by decide +kernel
theorem dX8_line_233 : decode cX8_line 233 = .ok (.checkcast 25, 3) := by decide +kernel
theorem dX8_line_236 : decode cX8_line 236 = .ok (.aload 7, 2) := by decide +kernel
theorem dX8_line_238 : decode cX8_line 238 = .ok (.invokevirtual 119, 3) := by decide +kernel
theorem dX8_line_241 : decode cX8_line 241 = .ok (.pop, 1) := by decide +kernel
theorem dX8_line_242 : decode cX8_line 242 = .ok (.aload 7, 2) := by decide +kernel
theorem dX8_line_244 : decode cX8_line 244 = .ok (.astore 8, 2) := by decide +kernel
theorem dX8_line_246 : decode cX8_line 246 = .ok (.aload 8, 2) := by decide +kernel
theorem dX8_line_248 : decode cX8_line 248 = .ok (.arraylength, 1) := by decide +kernel
theorem dX8_line_249 : decode cX8_line 249 = .ok (.istore 9, 2) := by decide +kernel
theorem dX8_line_251 : decode cX8_line 251 = .ok (.iconst 0, 1) := by decide +kernel
theorem dX8_line_252 : decode cX8_line 252 = .ok (.istore 10, 2) := by decide +kernel
theorem dX8_line_254 : decode cX8_line 254 = .ok (.iload 10, 2) := by decide +kernel
theorem dX8_line_256 : decode cX8_line 256 = .ok (.iload 9, 2) := by decide +kernel
theorem dX8_line_258 : decode cX8_line 258 = .ok (.if_icmp .ge 43, 3) := by decide +kernel
theorem dX8_line_261 : decode cX8_line 261 = .ok (.aload 8, 2) := by decide +kernel
theorem dX8_line_263 : decode cX8_line 263 = .ok (.iload 10, 2) := by decide +kernel
theorem dX8_line_265 : decode cX8_line 265 = .ok (.iaload, 1) := by decide +kernel
theorem dX8_line_266 : decode cX8_line 266 = .ok (.istore 11, 2) := by decide +kernel
theorem dX8_line_268 : decode cX8_line 268 = .ok (.new 62, 3) := by decide +kernel
theorem dX8_line_271 : decode cX8_line 271 = .ok (.dup, 1) := by decide +kernel
theorem dX8_line_272 : decode cX8_line 272 = .ok (.invokespecial 64, 3) := by decide +kernel
theorem dX8_line_275 : decode cX8_line 275 = .ok (.aload 5, 2) := by decide +kernel
theorem dX8_line_277 : decode cX8_line 277 = .ok (.invokevirtual 67, 3) := by decide +kernel
theorem dX8_line_280 : decode cX8_line 280 = .ok (.ldc 85, 2) := by decide +kernel
theorem dX8_line_282 : decode cX8_line 282 = .ok (.invokevirtual 67, 3) := by decide +kernel
theorem dX8_line_285 : decode cX8_line 285 = .ok (.iload 11, 2) := by decide +kernel
theorem dX8_line_287 : decode cX8_line 287 = .ok (.invokevirtual 71, 3) := by decide +kernel
theorem dX8_line_290 : decode cX8_line 290 = .ok (.invokevirtual 76, 3) := by decide +kernel
theorem dX8_line_293 : decode cX8_line 293 = .ok (.astore 5, 2) := by decide +kernel
theorem dX8_line_295 : decode cX8_line 295 = .ok (.iinc 10 1, 3) := by decide +kernel
theorem dX8_line_298 : decode cX8_line 298 = .ok (.goto (-44), 3) := by decide +kernel
theorem dX8_line_301 : decode cX8_line 301 = .ok (.iinc 6 1, 3) := by decide +kernel
theorem dX8_line_304 : decode cX8_line 304 = .ok (.goto (-159), 3) := by decide +kernel
theorem dX8_line_307 : decode cX8_line 307 = .ok (.new 62, 3) := by decide +kernel
theorem dX8_line_310 : decode cX8_line 310 = .ok (.dup, 1) := by decide +kernel
theorem dX8_line_311 : decode cX8_line 311 = .ok (.invokespecial 64, 3) := by decide +kernel
theorem dX8_line_314 : decode cX8_line 314 = .ok (.aload 5, 2) := by decide +kernel
theorem dX8_line_316 : decode cX8_line 316 = .ok (.invokevirtual 67, 3) := by decide +kernel
theorem dX8_line_319 : decode cX8_line 319 = .ok (.ldc 74, 2) := by decide +kernel
theorem dX8_line_321 : decode cX8_line 321 = .ok (.invokevirtual 67, 3) := by decide +kernel
theorem dX8_line_324 : decode cX8_line 324 = .ok (.invokevirtual 76, 3) := by decide +kernel
theorem dX8_line_327 : decode cX8_line 327 = .ok (.areturn, 1) := by decide +kernel
def j_L_line_j3 (p1 p2 : Int32) (t9 : List Nat) (ν μ : gM) : Option (List Nat × gM) :=
  Option.bind (f_L_mod (p2 >>> ((9 : Int32) &&& 31)) (3 : Int32) μ) (fun q417 => gchk (q417 < (3 : Int32)) (gchk ((([] : List Nat)).length + (t9).length ≤ 1024) (Option.bind (some (([] : List Nat) ++ t9)) (fun s426 => gchk ((s426).length + (sTx 1).length ≤ 1024) (Option.bind (some (s426 ++ sTx 1)) (fun s431 => some (s431, ν)))))))
set_option maxHeartbeats 20000000 in
set_option maxRecDepth 100000 in
theorem wj_L_line_j3 {p : Program} {l : Launch} {e : Env} {s : State} {m : MethodId} {args : Array Value} {below : List Frame} {meth : Method} {c : Code} {D : va_G} {cy : Nat → ClassId} {ad : Nat → Nat} {b o0 sa va : Nat} {la : Nat → Nat → Nat} {FX : va_W} {μ ν : gM} {p1 p2 : Int32} {t9 : List Nat} {o : List Nat × gM} {cells slots : Nat} (h : j_L_line_j3 p1 p2 t9 ν μ = some o) (F : gF p s m meth c cX8_line RX8 12 (some (.object "java/lang/String"))) (E : hE l D cy ad b s) (hoo : la 0 0 = o0) (hs : lS ν) (hc : cells + 6 ≤ 106) (hsl : slots + 8232 ≤ 148189) {H : Heap} {locs : List Loc} {ls : Array Slot} (hM : hW D cy ad b μ (lws cy ad la ν) (FX ++ [(sa, sO va), (va, sV cy t9)]) H) (hS : va_S (hA b) s.heap H locs) (hl : lv_has ls 12 [(0, .ref (la 0 0)), (1, .int p1), (2, .int p2), (5, .ref sa), (6, .int (3 : Int32))]) : W p l e ({ frames := 7, cells := 106, slots := 148189, locals := 171 } : Room) s m args below meth c H locs cells slots (MQ below (hQ b (fun rv H => ∃ la1 : Nat → Nat → Nat, ∃ sa va : Nat, rv = some (.ref sa) ∧ lS o.2 ∧ hW D cy ad b μ (lws cy ad la1 o.2) (FX ++ [(sa, sO va), (va, sV cy o.1)]) H ∧ la1 0 0 = o0)) args s 106 148189 (hA b)) (F0 m 145 ls []) := by
  obtain ⟨hx, hb, hml, hown, hlocks, hr⟩ := id F
  have hY := lY0_self (cy := cy) (ad := ad) (la := la) hs
  unfold j_L_line_j3 at h
  refine lv_iload hx hb dX8_line_145 (lv_at hl 4 rfl) ?_
  refine lv_iload_n hx hb dX8_line_147 rfl (lv_at hl 2 rfl) ?_
  refine lv_bipush (v := (9 : Int32)) hx hb dX8_line_148 (by decide) ?_
  refine lv_ishr hx hb dX8_line_150 ?_
  refine lv_iconst (v := (3 : Int32)) hx hb dX8_line_151 (by decide) ?_
  obtain ⟨q417, hq417, h⟩ := gbind_e h
  refine h_callSCN (As := [.int (p2 >>> ((9 : Int32) &&& 31)), .int (3 : Int32)]) (rest := [.int (3 : Int32)]) hx hb (hml.trans hl.1.symm) hown E hM hS hy_L_mod (E.2.1.2.2.1 _ (List.mem_of_getElem? (i := 1) rfl)) (c_L_mod hq417) rfl rfl (Nat.le_of_ble_eq_true rfl) ⟨(Nat.le_of_ble_eq_true rfl), (Nat.le_of_ble_eq_true rfl)⟩ ⟨(show _ ≤ 106 by omega), (show _ ≤ 148189 by omega)⟩ dX8_line_152 (fun H locs hM hS => ?_)
  obtain ⟨c418, h⟩ := gchk_e h
  refine lv_icmp_gt (tgt := 307) hx hb dX8_line_155 (by decide) (fun c419 => ?_) (fun c419 => ?_)
  · refine h_new hx hb hown E hM hS gC_J4 kw_549 kw_550 kw_63 (fs := [.null, .int (0 : Int32), .int (0 : Int32), .int (0 : Int32)]) (by decide +kernel) (show _ ≤ 106 by omega) (show _ ≤ 148189 by omega) dX8_line_307 (fun a420 H hM hS => ?_)
    replace hM : hW D cy ad b μ (lws cy ad la ν) (FX ++ [(sa, sO va), (va, sV cy t9), (a420, .inr (10, [.null, .int (0 : Int32), .int (0 : Int32), .int (0 : Int32)]))]) H := by simpa only [List.append_assoc, List.cons_append, List.nil_append] using hM
    refine lv_dup hx hb dX8_line_310 rfl ?_
    replace hM := hW.right (X := (FX ++ [(sa, sO va), (va, sV cy t9)])) (T := [(a420, .inr (10, [.null, .int (0 : Int32), .int (0 : Int32), .int (0 : Int32)]))]) (by simpa only [List.append_assoc, List.cons_append, List.nil_append] using hM)
    refine h_callI (As := []) (rest := [.ref a420]) hx hb (hml.trans hl.1.symm) hown E hM hS xi_J4_init_da8c8 kw_551 c_binit rfl rfl (Nat.le_of_ble_eq_true rfl) ⟨(Nat.le_of_ble_eq_true rfl), (Nat.le_of_ble_eq_true rfl)⟩ ⟨(show _ ≤ 106 by omega), (show _ ≤ 148189 by omega)⟩ dX8_line_311 (fun rv H locs hZ hS => ?_)
    obtain ⟨vb421, rfl, hM⟩ := hZ
    replace hM := hW.left (X := (FX ++ [(sa, sO va), (va, sV cy t9)])) (T := (sB cy a420 vb421 16 (0 : Int32) ([] : List Nat))) hM
    replace hM : hW D cy ad b μ (lws cy ad la ν) (FX ++ [(sa, sO va), (va, sV cy t9)] ++ sB cy a420 vb421 16 (0 : Int32) ([] : List Nat)) H := by simpa only [List.append_assoc, List.cons_append, List.nil_append] using hM
    refine lv_aload hx hb dX8_line_314 (lv_at hl 3 rfl) ?_
    obtain ⟨c422, h⟩ := gchk_e h
    obtain ⟨s426, hs426, h⟩ := gnm h
    replace hM := hW.right (X := (FX ++ [(sa, sO va), (va, sV cy t9)])) (T := (sB cy a420 vb421 16 (0 : Int32) ([] : List Nat))) (by simpa only [List.append_assoc, List.cons_append, List.nil_append] using hM)
    refine h_callV (As := [.ref sa]) (rest := []) hx hb (hml.trans hl.1.symm) hown E hM hS xy_J4_append_15ec4 kw_581 (c_appS (Or.inr ⟨List.mem_append_right _ (List.mem_append_right _ (List.mem_of_getElem? (i := 0) rfl)), List.mem_append_right _ (List.mem_append_right _ (List.mem_of_getElem? (i := 1) rfl))⟩) c422 (show ([] : List Nat).length ≤ 16 by decide) (show 16 ≤ 2056 by decide)) (ht_m List.mem_cons_self) gC_J4.1 rfl rfl (Nat.le_of_ble_eq_true rfl) ⟨(Nat.le_of_ble_eq_true rfl), (Nat.le_of_ble_eq_true rfl)⟩ ⟨(show _ ≤ 106 by omega), (show _ ≤ 148189 by omega)⟩ dX8_line_316 (fun rv H locs hZ hS => ?_)
    obtain ⟨vb423, w424, rfl, he425, hM⟩ := hZ
    rw [← hs426] at hM he425
    replace hM := hW.left (X := (FX ++ [(sa, sO va), (va, sV cy t9)])) hM
    replace hM : hW D cy ad b μ (lws cy ad la ν) (FX ++ [(sa, sO va), (va, sV cy t9)] ++ sB cy a420 vb423 w424 (0 : Int32) s426) H := by simpa only [List.append_assoc, List.cons_append, List.nil_append] using hM
    refine va_ldcS hx hb hown (E.2.2.2.2.2.2.2.2.2.2.2.1 1 (by decide)) dX8_line_319 ?_
    obtain ⟨c427, h⟩ := gchk_e h
    obtain ⟨s431, hs431, h⟩ := gnm h
    replace hM := hW.right (X := (FX ++ [(sa, sO va), (va, sV cy t9)])) (T := (sB cy a420 vb423 w424 (0 : Int32) s426)) (by simpa only [List.append_assoc, List.cons_append, List.nil_append] using hM)
    refine h_callV (As := [.ref (ad (470 + 1))]) (rest := []) hx hb (hml.trans hl.1.symm) hown E hM hS xy_J4_append_15ec4 kw_581 (c_appS (sSrc_k (by decide : 1 < 9)) c427 he425.1 he425.2) (ht_m List.mem_cons_self) gC_J4.1 rfl rfl (Nat.le_of_ble_eq_true rfl) ⟨(Nat.le_of_ble_eq_true rfl), (Nat.le_of_ble_eq_true rfl)⟩ ⟨(show _ ≤ 106 by omega), (show _ ≤ 148189 by omega)⟩ dX8_line_321 (fun rv H locs hZ hS => ?_)
    obtain ⟨vb428, w429, rfl, he430, hM⟩ := hZ
    rw [← hs431] at hM he430
    replace hM := hW.left (X := (FX ++ [(sa, sO va), (va, sV cy t9)])) hM
    replace hM : hW D cy ad b μ (lws cy ad la ν) (FX ++ [(sa, sO va), (va, sV cy t9)] ++ sB cy a420 vb428 w429 (0 : Int32) s431) H := by simpa only [List.append_assoc, List.cons_append, List.nil_append] using hM
    replace hM := hW.right (X := (FX ++ [(sa, sO va), (va, sV cy t9)])) (T := (sB cy a420 vb428 w429 (0 : Int32) s431)) (by simpa only [List.append_assoc, List.cons_append, List.nil_append] using hM)
    refine h_callV (As := []) (rest := []) hx hb (hml.trans hl.1.symm) hown E hM hS xy_J4_toString_0e30d kw_725 (c_toS he430.1 he430.2) (ht_m List.mem_cons_self) gC_J4.1 rfl rfl (Nat.le_of_ble_eq_true rfl) ⟨(Nat.le_of_ble_eq_true rfl), (Nat.le_of_ble_eq_true rfl)⟩ ⟨(show _ ≤ 106 by omega), (show _ ≤ 148189 by omega)⟩ dX8_line_324 (fun rv H locs hZ hS => ?_)
    obtain ⟨a433, va434, rfl, hM⟩ := hZ
    replace hM := hW.left (X := (FX ++ [(sa, sO va), (va, sV cy t9)])) hM
    replace hM := hW.cutM (A := (FX ++ [(sa, sO va), (va, sV cy t9)])) hM
    replace hM : hW D cy ad b μ (lws cy ad la ν) (FX ++ [(sa, sO va), (va, sV cy t9), (a433, sO va434), (va434, sV cy s431)]) H := by simpa only [List.append_assoc, List.cons_append, List.nil_append] using hM
    obtain rfl := Option.some.inj h
    replace hM := hW.cutM (A := (FX)) (B := [(sa, sO va), (va, sV cy t9)]) (C := [(a433, sO va434), (va434, sV cy s431)]) (by simpa only [List.append_assoc, List.cons_append, List.nil_append] using hM)
    replace hM : hW D cy ad b μ (lws cy ad la ν) (FX ++ [(a433, sO va434), (va434, sV cy s431)]) H := (by simpa only [List.append_assoc, List.cons_append, List.nil_append] using hM)
    exact h_aret hx hb hr (Or.inl ⟨_, rfl⟩) hlocks (by omega) (by omega) ⟨_, _, _, rfl, hs, hM, hoo⟩ hS dX8_line_327
  · exact absurd c418 c419
def j_L_line_j2 (p1 p2 : Int32) (t9 : List Nat) (ν μ : gM) : Option (List Nat × gM) :=
  Option.bind (f_L_mod (p2 >>> ((9 : Int32) &&& 31)) (3 : Int32) μ) (fun q298 => if (q298 < (2 : Int32)) then gchk ((([] : List Nat)).length + (t9).length ≤ 1024) (Option.bind (some (([] : List Nat) ++ t9)) (fun s306 => gchk ((s306).length + (sTx 1).length ≤ 1024) (Option.bind (some (s306 ++ sTx 1)) (fun s311 => some (s311, ν))))) else Option.bind (f_L_mod (p2 >>> ((2 : Int32) &&& 31)) (4000 : Int32) μ) (fun q316 => Option.bind (f_L_mod (p2 >>> (((3 : Int32) + (2 : Int32)) &&& 31)) (4000 : Int32) μ) (fun q317 => Option.bind (f_L_mod (p2 >>> (((11 : Int32) + (2 : Int32)) &&& 31)) (90 : Int32) μ) (fun q318 => Option.bind (f_L_mod (p2 >>> (((15 : Int32) + (2 : Int32)) &&& 31)) (90 : Int32) μ) (fun q319 => gchk (gIn p1 (lLs ν)) (gchk (lSz ν p1.toNatClampNeg ≠ 0 ∧ lSz ν p1.toNatClampNeg < 8) (Option.bind (some (lgrow ν p1.toNatClampNeg (upd (upd (upd (upd (fun _ => 0) 0 q316) 1 q317) 2 ((1 : Int32) + q318)) 3 ((1 : Int32) + q319)))) (fun ν322 => Option.bind (some (gi ν322 (100 + 8 * p1.toNatClampNeg + (lSz ν p1.toNatClampNeg)) 0)) (fun y326 => gchk ((([] : List Nat)).length + (t9).length ≤ 1024) (Option.bind (some (([] : List Nat) ++ t9)) (fun s333 => gchk ((s333).length + (sTx 3).length ≤ 1024) (Option.bind (some (s333 ++ sTx 3)) (fun s338 => gchk (gIn y326 1000000 ∧ (s338).length + (sdig y326.toNatClampNeg).length ≤ 1024) (Option.bind (some (s338 ++ sdig y326.toNatClampNeg)) (fun s343 => Option.bind (some (gi ν322 (100 + 8 * p1.toNatClampNeg + (lSz ν p1.toNatClampNeg)) 1)) (fun y349 => gchk ((([] : List Nat)).length + (s343).length ≤ 1024) (Option.bind (some (([] : List Nat) ++ s343)) (fun s356 => gchk ((s356).length + (sTx 3).length ≤ 1024) (Option.bind (some (s356 ++ sTx 3)) (fun s361 => gchk (gIn y349 1000000 ∧ (s361).length + (sdig y349.toNatClampNeg).length ≤ 1024) (Option.bind (some (s361 ++ sdig y349.toNatClampNeg)) (fun s366 => Option.bind (some (gi ν322 (100 + 8 * p1.toNatClampNeg + (lSz ν p1.toNatClampNeg)) 2)) (fun y372 => gchk ((([] : List Nat)).length + (s366).length ≤ 1024) (Option.bind (some (([] : List Nat) ++ s366)) (fun s379 => gchk ((s379).length + (sTx 3).length ≤ 1024) (Option.bind (some (s379 ++ sTx 3)) (fun s384 => gchk (gIn y372 1000000 ∧ (s384).length + (sdig y372.toNatClampNeg).length ≤ 1024) (Option.bind (some (s384 ++ sdig y372.toNatClampNeg)) (fun s389 => Option.bind (some (gi ν322 (100 + 8 * p1.toNatClampNeg + (lSz ν p1.toNatClampNeg)) 3)) (fun y395 => gchk ((([] : List Nat)).length + (s389).length ≤ 1024) (Option.bind (some (([] : List Nat) ++ s389)) (fun s402 => gchk ((s402).length + (sTx 3).length ≤ 1024) (Option.bind (some (s402 ++ sTx 3)) (fun s407 => gchk (gIn y395 1000000 ∧ (s407).length + (sdig y395.toNatClampNeg).length ≤ 1024) (Option.bind (some (s407 ++ sdig y395.toNatClampNeg)) (fun s412 => j_L_line_j3 p1 p2 s412 ν322 μ))))))))))))))))))))))))))))))))))))
set_option maxHeartbeats 20000000 in
set_option maxRecDepth 100000 in
theorem wj_L_line_j2 {p : Program} {l : Launch} {e : Env} {s : State} {m : MethodId} {args : Array Value} {below : List Frame} {meth : Method} {c : Code} {D : va_G} {cy : Nat → ClassId} {ad : Nat → Nat} {b o0 sa va : Nat} {la : Nat → Nat → Nat} {FX : va_W} {μ ν : gM} {p1 p2 : Int32} {t9 : List Nat} {o : List Nat × gM} {cells slots : Nat} (h : j_L_line_j2 p1 p2 t9 ν μ = some o) (F : gF p s m meth c cX8_line RX8 12 (some (.object "java/lang/String"))) (E : hE l D cy ad b s) (hoo : la 0 0 = o0) (hs : lS ν) (hc : cells + 35 ≤ 106) (hsl : slots + 49388 ≤ 148189) {H : Heap} {locs : List Loc} {ls : Array Slot} (hM : hW D cy ad b μ (lws cy ad la ν) (FX ++ [(sa, sO va), (va, sV cy t9)]) H) (hS : va_S (hA b) s.heap H locs) (hl : lv_has ls 12 [(0, .ref (la 0 0)), (1, .int p1), (2, .int p2), (5, .ref sa), (6, .int (2 : Int32))]) : W p l e ({ frames := 7, cells := 106, slots := 148189, locals := 171 } : Room) s m args below meth c H locs cells slots (MQ below (hQ b (fun rv H => ∃ la1 : Nat → Nat → Nat, ∃ sa va : Nat, rv = some (.ref sa) ∧ lS o.2 ∧ hW D cy ad b μ (lws cy ad la1 o.2) (FX ++ [(sa, sO va), (va, sV cy o.1)]) H ∧ la1 0 0 = o0)) args s 106 148189 (hA b)) (F0 m 145 ls []) := by
  obtain ⟨hx, hb, hml, hown, hlocks, hr⟩ := id F
  have hY := lY0_self (cy := cy) (ad := ad) (la := la) hs
  unfold j_L_line_j2 at h
  refine lv_iload hx hb dX8_line_145 (lv_at hl 4 rfl) ?_
  refine lv_iload_n hx hb dX8_line_147 rfl (lv_at hl 2 rfl) ?_
  refine lv_bipush (v := (9 : Int32)) hx hb dX8_line_148 (by decide) ?_
  refine lv_ishr hx hb dX8_line_150 ?_
  refine lv_iconst (v := (3 : Int32)) hx hb dX8_line_151 (by decide) ?_
  obtain ⟨q298, hq298, h⟩ := gbind_e h
  refine h_callSCN (As := [.int (p2 >>> ((9 : Int32) &&& 31)), .int (3 : Int32)]) (rest := [.int (2 : Int32)]) hx hb (hml.trans hl.1.symm) hown E hM hS hy_L_mod (E.2.1.2.2.1 _ (List.mem_of_getElem? (i := 1) rfl)) (c_L_mod hq298) rfl rfl (Nat.le_of_ble_eq_true rfl) ⟨(Nat.le_of_ble_eq_true rfl), (Nat.le_of_ble_eq_true rfl)⟩ ⟨(show _ ≤ 106 by omega), (show _ ≤ 148189 by omega)⟩ dX8_line_152 (fun H locs hM hS => ?_)
  refine lv_icmp_gt (tgt := 307) hx hb dX8_line_155 (by decide) (fun c299 => ?_) (fun c299 => ?_)
  · replace h := gif_t c299 h
    refine h_new hx hb hown E hM hS gC_J4 kw_549 kw_550 kw_63 (fs := [.null, .int (0 : Int32), .int (0 : Int32), .int (0 : Int32)]) (by decide +kernel) (show _ ≤ 106 by omega) (show _ ≤ 148189 by omega) dX8_line_307 (fun a300 H hM hS => ?_)
    replace hM : hW D cy ad b μ (lws cy ad la ν) (FX ++ [(sa, sO va), (va, sV cy t9), (a300, .inr (10, [.null, .int (0 : Int32), .int (0 : Int32), .int (0 : Int32)]))]) H := by simpa only [List.append_assoc, List.cons_append, List.nil_append] using hM
    refine lv_dup hx hb dX8_line_310 rfl ?_
    replace hM := hW.right (X := (FX ++ [(sa, sO va), (va, sV cy t9)])) (T := [(a300, .inr (10, [.null, .int (0 : Int32), .int (0 : Int32), .int (0 : Int32)]))]) (by simpa only [List.append_assoc, List.cons_append, List.nil_append] using hM)
    refine h_callI (As := []) (rest := [.ref a300]) hx hb (hml.trans hl.1.symm) hown E hM hS xi_J4_init_da8c8 kw_551 c_binit rfl rfl (Nat.le_of_ble_eq_true rfl) ⟨(Nat.le_of_ble_eq_true rfl), (Nat.le_of_ble_eq_true rfl)⟩ ⟨(show _ ≤ 106 by omega), (show _ ≤ 148189 by omega)⟩ dX8_line_311 (fun rv H locs hZ hS => ?_)
    obtain ⟨vb301, rfl, hM⟩ := hZ
    replace hM := hW.left (X := (FX ++ [(sa, sO va), (va, sV cy t9)])) (T := (sB cy a300 vb301 16 (0 : Int32) ([] : List Nat))) hM
    replace hM : hW D cy ad b μ (lws cy ad la ν) (FX ++ [(sa, sO va), (va, sV cy t9)] ++ sB cy a300 vb301 16 (0 : Int32) ([] : List Nat)) H := by simpa only [List.append_assoc, List.cons_append, List.nil_append] using hM
    refine lv_aload hx hb dX8_line_314 (lv_at hl 3 rfl) ?_
    obtain ⟨c302, h⟩ := gchk_e h
    obtain ⟨s306, hs306, h⟩ := gnm h
    replace hM := hW.right (X := (FX ++ [(sa, sO va), (va, sV cy t9)])) (T := (sB cy a300 vb301 16 (0 : Int32) ([] : List Nat))) (by simpa only [List.append_assoc, List.cons_append, List.nil_append] using hM)
    refine h_callV (As := [.ref sa]) (rest := []) hx hb (hml.trans hl.1.symm) hown E hM hS xy_J4_append_15ec4 kw_581 (c_appS (Or.inr ⟨List.mem_append_right _ (List.mem_append_right _ (List.mem_of_getElem? (i := 0) rfl)), List.mem_append_right _ (List.mem_append_right _ (List.mem_of_getElem? (i := 1) rfl))⟩) c302 (show ([] : List Nat).length ≤ 16 by decide) (show 16 ≤ 2056 by decide)) (ht_m List.mem_cons_self) gC_J4.1 rfl rfl (Nat.le_of_ble_eq_true rfl) ⟨(Nat.le_of_ble_eq_true rfl), (Nat.le_of_ble_eq_true rfl)⟩ ⟨(show _ ≤ 106 by omega), (show _ ≤ 148189 by omega)⟩ dX8_line_316 (fun rv H locs hZ hS => ?_)
    obtain ⟨vb303, w304, rfl, he305, hM⟩ := hZ
    rw [← hs306] at hM he305
    replace hM := hW.left (X := (FX ++ [(sa, sO va), (va, sV cy t9)])) hM
    replace hM : hW D cy ad b μ (lws cy ad la ν) (FX ++ [(sa, sO va), (va, sV cy t9)] ++ sB cy a300 vb303 w304 (0 : Int32) s306) H := by simpa only [List.append_assoc, List.cons_append, List.nil_append] using hM
    refine va_ldcS hx hb hown (E.2.2.2.2.2.2.2.2.2.2.2.1 1 (by decide)) dX8_line_319 ?_
    obtain ⟨c307, h⟩ := gchk_e h
    obtain ⟨s311, hs311, h⟩ := gnm h
    replace hM := hW.right (X := (FX ++ [(sa, sO va), (va, sV cy t9)])) (T := (sB cy a300 vb303 w304 (0 : Int32) s306)) (by simpa only [List.append_assoc, List.cons_append, List.nil_append] using hM)
    refine h_callV (As := [.ref (ad (470 + 1))]) (rest := []) hx hb (hml.trans hl.1.symm) hown E hM hS xy_J4_append_15ec4 kw_581 (c_appS (sSrc_k (by decide : 1 < 9)) c307 he305.1 he305.2) (ht_m List.mem_cons_self) gC_J4.1 rfl rfl (Nat.le_of_ble_eq_true rfl) ⟨(Nat.le_of_ble_eq_true rfl), (Nat.le_of_ble_eq_true rfl)⟩ ⟨(show _ ≤ 106 by omega), (show _ ≤ 148189 by omega)⟩ dX8_line_321 (fun rv H locs hZ hS => ?_)
    obtain ⟨vb308, w309, rfl, he310, hM⟩ := hZ
    rw [← hs311] at hM he310
    replace hM := hW.left (X := (FX ++ [(sa, sO va), (va, sV cy t9)])) hM
    replace hM : hW D cy ad b μ (lws cy ad la ν) (FX ++ [(sa, sO va), (va, sV cy t9)] ++ sB cy a300 vb308 w309 (0 : Int32) s311) H := by simpa only [List.append_assoc, List.cons_append, List.nil_append] using hM
    replace hM := hW.right (X := (FX ++ [(sa, sO va), (va, sV cy t9)])) (T := (sB cy a300 vb308 w309 (0 : Int32) s311)) (by simpa only [List.append_assoc, List.cons_append, List.nil_append] using hM)
    refine h_callV (As := []) (rest := []) hx hb (hml.trans hl.1.symm) hown E hM hS xy_J4_toString_0e30d kw_725 (c_toS he310.1 he310.2) (ht_m List.mem_cons_self) gC_J4.1 rfl rfl (Nat.le_of_ble_eq_true rfl) ⟨(Nat.le_of_ble_eq_true rfl), (Nat.le_of_ble_eq_true rfl)⟩ ⟨(show _ ≤ 106 by omega), (show _ ≤ 148189 by omega)⟩ dX8_line_324 (fun rv H locs hZ hS => ?_)
    obtain ⟨a313, va314, rfl, hM⟩ := hZ
    replace hM := hW.left (X := (FX ++ [(sa, sO va), (va, sV cy t9)])) hM
    replace hM := hW.cutM (A := (FX ++ [(sa, sO va), (va, sV cy t9)])) hM
    replace hM : hW D cy ad b μ (lws cy ad la ν) (FX ++ [(sa, sO va), (va, sV cy t9), (a313, sO va314), (va314, sV cy s311)]) H := by simpa only [List.append_assoc, List.cons_append, List.nil_append] using hM
    obtain rfl := Option.some.inj h
    replace hM := hW.cutM (A := (FX)) (B := [(sa, sO va), (va, sV cy t9)]) (C := [(a313, sO va314), (va314, sV cy s311)]) (by simpa only [List.append_assoc, List.cons_append, List.nil_append] using hM)
    replace hM : hW D cy ad b μ (lws cy ad la ν) (FX ++ [(a313, sO va314), (va314, sV cy s311)]) H := (by simpa only [List.append_assoc, List.cons_append, List.nil_append] using hM)
    exact h_aret hx hb hr (Or.inl ⟨_, rfl⟩) hlocks (by omega) (by omega) ⟨_, _, _, rfl, hs, hM, hoo⟩ hS dX8_line_327
  · replace h := gif_f c299 h
    refine lv_iconst (v := (4 : Int32)) hx hb dX8_line_158 (by decide) ?_
    refine l_newI hx hb E hM hS (show _ ≤ 106 by omega) (show _ ≤ 148189 by omega) dX8_line_159 (fun a315 H hM hS => ?_)
    replace hM : hW D cy ad b μ (lws cy ad la ν) (FX ++ [(sa, sO va), (va, sV cy t9), (a315, .inl (cy 0, 4, .inl (fun _ => 0)))]) H := by simpa only [List.append_assoc, List.cons_append, List.nil_append] using hM
    refine lv_dup hx hb dX8_line_161 rfl ?_
    refine lv_iconst (v := (0 : Int32)) hx hb dX8_line_162 (by decide) ?_
    refine lv_iload_n hx hb dX8_line_163 rfl (lv_at hl 2 rfl) ?_
    refine lv_iload hx hb dX8_line_164 (lv_at hl 4 rfl) ?_
    refine lv_ishr hx hb dX8_line_166 ?_
    refine lv_sipush (v := (4000 : Int32)) hx hb dX8_line_167 (by decide) ?_
    obtain ⟨q316, hq316, h⟩ := gbind_e h
    refine h_callSCN (As := [.int (p2 >>> ((2 : Int32) &&& 31)), .int (4000 : Int32)]) (rest := [.int (0 : Int32), .ref a315, .ref a315]) hx hb (hml.trans hl.1.symm) hown E hM hS hy_L_mod (E.2.1.2.2.1 _ (List.mem_of_getElem? (i := 1) rfl)) (c_L_mod hq316) rfl rfl (Nat.le_of_ble_eq_true rfl) ⟨(Nat.le_of_ble_eq_true rfl), (Nat.le_of_ble_eq_true rfl)⟩ ⟨(show _ ≤ 106 by omega), (show _ ≤ 148189 by omega)⟩ dX8_line_170 (fun H locs hM hS => ?_)
    refine h_iast (j := FX.length + 2) hx hb E hM hS (x_get rfl) (⟨by decide, by decide⟩ : gIn (0 : Int32) 4) dX8_line_173 (fun H locs hM hS => ?_)
    rw [x_set] at hM
    replace hM : hW D cy ad b μ (lws cy ad la ν) (FX ++ [(sa, sO va), (va, sV cy t9), (a315, .inl (cy 0, 4, .inl (upd (fun _ => 0) 0 q316)))]) H := hM
    refine lv_dup hx hb dX8_line_174 rfl ?_
    refine lv_iconst (v := (1 : Int32)) hx hb dX8_line_175 (by decide) ?_
    refine lv_iload_n hx hb dX8_line_176 rfl (lv_at hl 2 rfl) ?_
    refine lv_iconst (v := (3 : Int32)) hx hb dX8_line_177 (by decide) ?_
    refine lv_iload hx hb dX8_line_178 (lv_at hl 4 rfl) ?_
    refine lv_iadd hx hb dX8_line_180 ?_
    refine lv_ishr hx hb dX8_line_181 ?_
    refine lv_sipush (v := (4000 : Int32)) hx hb dX8_line_182 (by decide) ?_
    obtain ⟨q317, hq317, h⟩ := gbind_e h
    refine h_callSCN (As := [.int (p2 >>> (((3 : Int32) + (2 : Int32)) &&& 31)), .int (4000 : Int32)]) (rest := [.int (1 : Int32), .ref a315, .ref a315]) hx hb (hml.trans hl.1.symm) hown E hM hS hy_L_mod (E.2.1.2.2.1 _ (List.mem_of_getElem? (i := 1) rfl)) (c_L_mod hq317) rfl rfl (Nat.le_of_ble_eq_true rfl) ⟨(Nat.le_of_ble_eq_true rfl), (Nat.le_of_ble_eq_true rfl)⟩ ⟨(show _ ≤ 106 by omega), (show _ ≤ 148189 by omega)⟩ dX8_line_185 (fun H locs hM hS => ?_)
    refine h_iast (j := FX.length + 2) hx hb E hM hS (x_get rfl) (⟨by decide, by decide⟩ : gIn (1 : Int32) 4) dX8_line_188 (fun H locs hM hS => ?_)
    rw [x_set] at hM
    replace hM : hW D cy ad b μ (lws cy ad la ν) (FX ++ [(sa, sO va), (va, sV cy t9), (a315, .inl (cy 0, 4, .inl (upd (upd (fun _ => 0) 0 q316) 1 q317)))]) H := hM
    refine lv_dup hx hb dX8_line_189 rfl ?_
    refine lv_iconst (v := (2 : Int32)) hx hb dX8_line_190 (by decide) ?_
    refine lv_iconst (v := (1 : Int32)) hx hb dX8_line_191 (by decide) ?_
    refine lv_iload_n hx hb dX8_line_192 rfl (lv_at hl 2 rfl) ?_
    refine lv_bipush (v := (11 : Int32)) hx hb dX8_line_193 (by decide) ?_
    refine lv_iload hx hb dX8_line_195 (lv_at hl 4 rfl) ?_
    refine lv_iadd hx hb dX8_line_197 ?_
    refine lv_ishr hx hb dX8_line_198 ?_
    refine lv_bipush (v := (90 : Int32)) hx hb dX8_line_199 (by decide) ?_
    obtain ⟨q318, hq318, h⟩ := gbind_e h
    refine h_callSCN (As := [.int (p2 >>> (((11 : Int32) + (2 : Int32)) &&& 31)), .int (90 : Int32)]) (rest := [.int (1 : Int32), .int (2 : Int32), .ref a315, .ref a315]) hx hb (hml.trans hl.1.symm) hown E hM hS hy_L_mod (E.2.1.2.2.1 _ (List.mem_of_getElem? (i := 1) rfl)) (c_L_mod hq318) rfl rfl (Nat.le_of_ble_eq_true rfl) ⟨(Nat.le_of_ble_eq_true rfl), (Nat.le_of_ble_eq_true rfl)⟩ ⟨(show _ ≤ 106 by omega), (show _ ≤ 148189 by omega)⟩ dX8_line_201 (fun H locs hM hS => ?_)
    refine lv_iadd hx hb dX8_line_204 ?_
    refine h_iast (j := FX.length + 2) hx hb E hM hS (x_get rfl) (⟨by decide, by decide⟩ : gIn (2 : Int32) 4) dX8_line_205 (fun H locs hM hS => ?_)
    rw [x_set] at hM
    replace hM : hW D cy ad b μ (lws cy ad la ν) (FX ++ [(sa, sO va), (va, sV cy t9), (a315, .inl (cy 0, 4, .inl (upd (upd (upd (fun _ => 0) 0 q316) 1 q317) 2 ((1 : Int32) + q318))))]) H := hM
    refine lv_dup hx hb dX8_line_206 rfl ?_
    refine lv_iconst (v := (3 : Int32)) hx hb dX8_line_207 (by decide) ?_
    refine lv_iconst (v := (1 : Int32)) hx hb dX8_line_208 (by decide) ?_
    refine lv_iload_n hx hb dX8_line_209 rfl (lv_at hl 2 rfl) ?_
    refine lv_bipush (v := (15 : Int32)) hx hb dX8_line_210 (by decide) ?_
    refine lv_iload hx hb dX8_line_212 (lv_at hl 4 rfl) ?_
    refine lv_iadd hx hb dX8_line_214 ?_
    refine lv_ishr hx hb dX8_line_215 ?_
    refine lv_bipush (v := (90 : Int32)) hx hb dX8_line_216 (by decide) ?_
    obtain ⟨q319, hq319, h⟩ := gbind_e h
    refine h_callSCN (As := [.int (p2 >>> (((15 : Int32) + (2 : Int32)) &&& 31)), .int (90 : Int32)]) (rest := [.int (1 : Int32), .int (3 : Int32), .ref a315, .ref a315]) hx hb (hml.trans hl.1.symm) hown E hM hS hy_L_mod (E.2.1.2.2.1 _ (List.mem_of_getElem? (i := 1) rfl)) (c_L_mod hq319) rfl rfl (Nat.le_of_ble_eq_true rfl) ⟨(Nat.le_of_ble_eq_true rfl), (Nat.le_of_ble_eq_true rfl)⟩ ⟨(show _ ≤ 106 by omega), (show _ ≤ 148189 by omega)⟩ dX8_line_218 (fun H locs hM hS => ?_)
    refine lv_iadd hx hb dX8_line_221 ?_
    refine h_iast (j := FX.length + 2) hx hb E hM hS (x_get rfl) (⟨by decide, by decide⟩ : gIn (3 : Int32) 4) dX8_line_222 (fun H locs hM hS => ?_)
    rw [x_set] at hM
    replace hM : hW D cy ad b μ (lws cy ad la ν) (FX ++ [(sa, sO va), (va, sV cy t9), (a315, .inl (cy 0, 4, .inl (upd (upd (upd (upd (fun _ => 0) 0 q316) 1 q317) 2 ((1 : Int32) + q318)) 3 ((1 : Int32) + q319))))]) H := hM
    refine lv_astore (lv' := [(7, .ref a315), (0, .ref (la 0 0)), (1, .int p1), (2, .int p2), (5, .ref sa), (6, .int (2 : Int32))]) hx hb dX8_line_223 hl (by decide) rfl (fun ls hl => ?_)
    refine lv_aload_n hx hb dX8_line_225 rfl (lv_at hl 1 rfl) ?_
    refine h_get hx hb hown E hM (hp_m hY.n0) gC_X8 8 (by decide) (v := .ref (la 6 0)) rfl kw_1032 dX8_line_226 ?_
    refine lv_iload_n hx hb dX8_line_229 rfl (lv_at hl 2 rfl) ?_
    obtain ⟨c320, h⟩ := gchk_e h
    replace hM := hW.low (T := (FX ++ [(sa, sO va), (va, sV cy t9), (a315, .inl (cy 0, 4, .inl (upd (upd (upd (upd (fun _ => 0) 0 q316) 1 q317) 2 ((1 : Int32) + q318)) 3 ((1 : Int32) + q319))))])) hM
    refine h_callV (As := [.int p1]) (rest := []) hx hb (hml.trans hl.1.symm) hown E hM hS xy_Jx4a65c_get_915e3 kw_870 (cl_get0 (hY.app _) c320) (hp_m ((hY.app _).c6 (by have := c320.2; omega)).1) gC_Jx4a65c.1 rfl rfl (Nat.le_of_ble_eq_true rfl) ⟨(Nat.le_of_ble_eq_true rfl), (Nat.le_of_ble_eq_true rfl)⟩ ⟨(show _ ≤ 106 by omega), (show _ ≤ 148189 by omega)⟩ dX8_line_230 (fun rv H locs hZ hS => ?_)
    obtain ⟨rfl, hM⟩ := hZ
    replace hM := hW.up (T := (FX ++ [(sa, sO va), (va, sV cy t9), (a315, .inl (cy 0, 4, .inl (upd (upd (upd (upd (fun _ => 0) 0 q316) 1 q317) 2 ((1 : Int32) + q318)) 3 ((1 : Int32) + q319))))])) hM
    refine h_castY hx hb hown E hM (hp_m (hY.c40 c320.2)) gC_Jx4a65c kw_511 dX8_line_233 ?_
    refine lv_aload hx hb dX8_line_236 (lv_at hl 0 rfl) ?_
    obtain ⟨c321, h⟩ := gchk_e h
    have hL9 := hs.2.2.1.1
    have hk1 := c320.2
    replace hM : hW D cy ad b μ (lws cy ad la ν) ((a315, .inl (cy 0, 4, .inl (upd (upd (upd (upd (fun _ => 0) 0 q316) 1 q317) 2 ((1 : Int32) + q318)) 3 ((1 : Int32) + q319)))) :: (FX ++ [(sa, sO va), (va, sV cy t9)])) H := hW.perm (List.Perm.append_left _ (by exact (List.perm_append_comm (l₁ := (FX ++ [(sa, sO va), (va, sV cy t9)])) (l₂ := [(a315, .inl (cy 0, 4, .inl (upd (upd (upd (upd (fun _ => 0) 0 q316) 1 q317) 2 ((1 : Int32) + q318)) 3 ((1 : Int32) + q319))))])))) (by simpa only [List.append_assoc, List.cons_append, List.nil_append] using hM)
    refine lw_add1 hx hb (hml.trans hl.1.symm) hown E hs hk1 c321.1 c321.2 hM hS kw_819 rfl (Nat.le_of_ble_eq_true rfl) ⟨(Nat.le_of_ble_eq_true rfl), (Nat.le_of_ble_eq_true rfl)⟩ ⟨(show _ ≤ 106 by omega), (show _ ≤ 148189 by omega)⟩ dX8_line_238 (fun H locs hM hS => ?_)
    obtain ⟨ν322, hν322, h⟩ := gupd h
    rw [← hν322] at hM
    replace hs : lS ν322 := by rw [hν322]; exact (lgrow_S hs hk1 c321.2)
    obtain ⟨la323, hla323⟩ : ∃ x, x = lset la (100 + p1.toNatClampNeg) (lSz ν p1.toNatClampNeg) a315 := ⟨_, rfl⟩
    rw [← hla323] at hM
    have ho1 : la323 0 0 = la 0 0 := by rw [hla323]; repeat rw [lset_ne2 (by omega)]
    replace hoo := ho1.trans hoo
    rw [← ho1] at hl
    have hY := lY0_self (cy := cy) (ad := ad) (la := la323) hs
    have hrow := l_rowm0 (k := p1.toNatClampNeg) hY (by rw [hla323, lset_eq]) hν322 hk1 c321.2 hL9
    refine lv_pop hx hb dX8_line_241 rfl ?_
    refine lv_aload hx hb dX8_line_242 (lv_at hl 0 rfl) ?_
    refine lv_astore (lv' := [(8, .ref a315), (7, .ref a315), (0, .ref (la323 0 0)), (1, .int p1), (2, .int p2), (5, .ref sa), (6, .int (2 : Int32))]) hx hb dX8_line_244 hl (by decide) rfl (fun ls hl => ?_)
    refine lv_aload hx hb dX8_line_246 (lv_at hl 0 rfl) ?_
    refine h_alen hx hb E hM 0 (ty := .int) (hp_m hrow) rfl (v := (4 : Int32)) rfl dX8_line_248 ?_
    refine lv_istore (lv' := [(9, .int (4 : Int32)), (8, .ref a315), (7, .ref a315), (0, .ref (la323 0 0)), (1, .int p1), (2, .int p2), (5, .ref sa), (6, .int (2 : Int32))]) hx hb dX8_line_249 hl (by decide) rfl (fun ls hl => ?_)
    refine lv_iconst (v := (0 : Int32)) hx hb dX8_line_251 (by decide) ?_
    refine lv_istore (lv' := [(10, .int (0 : Int32)), (9, .int (4 : Int32)), (8, .ref a315), (7, .ref a315), (0, .ref (la323 0 0)), (1, .int p1), (2, .int p2), (5, .ref sa), (6, .int (2 : Int32))]) hx hb dX8_line_252 hl (by decide) rfl (fun ls hl => ?_)
    refine lv_iload hx hb dX8_line_254 (lv_at hl 0 rfl) ?_
    refine lv_iload hx hb dX8_line_256 (lv_at hl 1 rfl) ?_
    refine lv_icmp_ge (tgt := 301) hx hb dX8_line_258 (by decide) (fun c324 => ?_) (fun c324 => ?_)
    · exact absurd c324 (by decide)
    · refine lv_aload hx hb dX8_line_261 (lv_at hl 2 rfl) ?_
      refine lv_iload hx hb dX8_line_263 (lv_at hl 0 rfl) ?_
      refine l_iald hx hb E hM (hp_m hrow) (⟨by decide, by decide⟩ : gIn (0 : Int32) 4) (v := (gi ν322 (100 + 8 * p1.toNatClampNeg + (lSz ν p1.toNatClampNeg)) 0)) (congrArg (ν322.1 (100 + 8 * p1.toNatClampNeg + (lSz ν p1.toNatClampNeg))) (by decide : (0 : Int32).toNatClampNeg = 0)) dX8_line_265 ?_
      obtain ⟨y326, hy326, h⟩ := gnm h
      rw [← hy326]
      refine lv_istore (lv' := [(11, .int y326), (10, .int (0 : Int32)), (9, .int (4 : Int32)), (8, .ref a315), (7, .ref a315), (0, .ref (la323 0 0)), (1, .int p1), (2, .int p2), (5, .ref sa), (6, .int (2 : Int32))]) hx hb dX8_line_266 hl (by decide) rfl (fun ls hl => ?_)
      refine h_new hx hb hown E hM hS gC_J4 kw_549 kw_550 kw_63 (fs := [.null, .int (0 : Int32), .int (0 : Int32), .int (0 : Int32)]) (by decide +kernel) (show _ ≤ 106 by omega) (show _ ≤ 148189 by omega) dX8_line_268 (fun a327 H hM hS => ?_)
      replace hM : hW D cy ad b μ (lws cy ad la323 ν322) (FX ++ [(sa, sO va), (va, sV cy t9), (a327, .inr (10, [.null, .int (0 : Int32), .int (0 : Int32), .int (0 : Int32)]))]) H := by simpa only [List.append_assoc, List.cons_append, List.nil_append] using hM
      refine lv_dup hx hb dX8_line_271 rfl ?_
      replace hM := hW.right (X := (FX ++ [(sa, sO va), (va, sV cy t9)])) (T := [(a327, .inr (10, [.null, .int (0 : Int32), .int (0 : Int32), .int (0 : Int32)]))]) (by simpa only [List.append_assoc, List.cons_append, List.nil_append] using hM)
      refine h_callI (As := []) (rest := [.ref a327]) hx hb (hml.trans hl.1.symm) hown E hM hS xi_J4_init_da8c8 kw_551 c_binit rfl rfl (Nat.le_of_ble_eq_true rfl) ⟨(Nat.le_of_ble_eq_true rfl), (Nat.le_of_ble_eq_true rfl)⟩ ⟨(show _ ≤ 106 by omega), (show _ ≤ 148189 by omega)⟩ dX8_line_272 (fun rv H locs hZ hS => ?_)
      obtain ⟨vb328, rfl, hM⟩ := hZ
      replace hM := hW.left (X := (FX ++ [(sa, sO va), (va, sV cy t9)])) (T := (sB cy a327 vb328 16 (0 : Int32) ([] : List Nat))) hM
      replace hM : hW D cy ad b μ (lws cy ad la323 ν322) (FX ++ [(sa, sO va), (va, sV cy t9)] ++ sB cy a327 vb328 16 (0 : Int32) ([] : List Nat)) H := by simpa only [List.append_assoc, List.cons_append, List.nil_append] using hM
      refine lv_aload hx hb dX8_line_275 (lv_at hl 8 rfl) ?_
      obtain ⟨c329, h⟩ := gchk_e h
      obtain ⟨s333, hs333, h⟩ := gnm h
      replace hM := hW.right (X := (FX ++ [(sa, sO va), (va, sV cy t9)])) (T := (sB cy a327 vb328 16 (0 : Int32) ([] : List Nat))) (by simpa only [List.append_assoc, List.cons_append, List.nil_append] using hM)
      refine h_callV (As := [.ref sa]) (rest := []) hx hb (hml.trans hl.1.symm) hown E hM hS xy_J4_append_15ec4 kw_581 (c_appS (Or.inr ⟨List.mem_append_right _ (List.mem_append_right _ (List.mem_of_getElem? (i := 0) rfl)), List.mem_append_right _ (List.mem_append_right _ (List.mem_of_getElem? (i := 1) rfl))⟩) c329 (show ([] : List Nat).length ≤ 16 by decide) (show 16 ≤ 2056 by decide)) (ht_m List.mem_cons_self) gC_J4.1 rfl rfl (Nat.le_of_ble_eq_true rfl) ⟨(Nat.le_of_ble_eq_true rfl), (Nat.le_of_ble_eq_true rfl)⟩ ⟨(show _ ≤ 106 by omega), (show _ ≤ 148189 by omega)⟩ dX8_line_277 (fun rv H locs hZ hS => ?_)
      obtain ⟨vb330, w331, rfl, he332, hM⟩ := hZ
      rw [← hs333] at hM he332
      replace hM := hW.left (X := (FX ++ [(sa, sO va), (va, sV cy t9)])) hM
      replace hM : hW D cy ad b μ (lws cy ad la323 ν322) (FX ++ [(sa, sO va), (va, sV cy t9)] ++ sB cy a327 vb330 w331 (0 : Int32) s333) H := by simpa only [List.append_assoc, List.cons_append, List.nil_append] using hM
      refine va_ldcS hx hb hown (E.2.2.2.2.2.2.2.2.2.2.2.1 3 (by decide)) dX8_line_280 ?_
      obtain ⟨c334, h⟩ := gchk_e h
      obtain ⟨s338, hs338, h⟩ := gnm h
      replace hM := hW.right (X := (FX ++ [(sa, sO va), (va, sV cy t9)])) (T := (sB cy a327 vb330 w331 (0 : Int32) s333)) (by simpa only [List.append_assoc, List.cons_append, List.nil_append] using hM)
      refine h_callV (As := [.ref (ad (470 + 3))]) (rest := []) hx hb (hml.trans hl.1.symm) hown E hM hS xy_J4_append_15ec4 kw_581 (c_appS (sSrc_k (by decide : 3 < 9)) c334 he332.1 he332.2) (ht_m List.mem_cons_self) gC_J4.1 rfl rfl (Nat.le_of_ble_eq_true rfl) ⟨(Nat.le_of_ble_eq_true rfl), (Nat.le_of_ble_eq_true rfl)⟩ ⟨(show _ ≤ 106 by omega), (show _ ≤ 148189 by omega)⟩ dX8_line_282 (fun rv H locs hZ hS => ?_)
      obtain ⟨vb335, w336, rfl, he337, hM⟩ := hZ
      rw [← hs338] at hM he337
      replace hM := hW.left (X := (FX ++ [(sa, sO va), (va, sV cy t9)])) hM
      replace hM : hW D cy ad b μ (lws cy ad la323 ν322) (FX ++ [(sa, sO va), (va, sV cy t9)] ++ sB cy a327 vb335 w336 (0 : Int32) s338) H := by simpa only [List.append_assoc, List.cons_append, List.nil_append] using hM
      refine lv_iload hx hb dX8_line_285 (lv_at hl 0 rfl) ?_
      obtain ⟨c339, h⟩ := gchk_e h
      obtain ⟨s343, hs343, h⟩ := gnm h
      replace hM := hW.right (X := (FX ++ [(sa, sO va), (va, sV cy t9)])) (T := (sB cy a327 vb335 w336 (0 : Int32) s338)) (by simpa only [List.append_assoc, List.cons_append, List.nil_append] using hM)
      refine h_callV (As := [.int y326]) (rest := []) hx hb (hml.trans hl.1.symm) hown E hM hS xy_J4_append_bf812 kw_699 (by have h9 := c_appI (l := l) (D := D) (cy := cy) (ad := ad) (b := b) (μ := μ) (P := ((lws cy ad la323 ν322) ++ (FX ++ [(sa, sO va), (va, sV cy t9)]))) (ba := a327) (vb := vb335) (w := w336) (ml := 0) (U := s338) c339.1.2 c339.2 he337.1 he337.2; rwa [← gIn_e c339.1] at h9) (ht_m List.mem_cons_self) gC_J4.1 rfl rfl (Nat.le_of_ble_eq_true rfl) ⟨(Nat.le_of_ble_eq_true rfl), (Nat.le_of_ble_eq_true rfl)⟩ ⟨(show _ ≤ 106 by omega), (show _ ≤ 148189 by omega)⟩ dX8_line_287 (fun rv H locs hZ hS => ?_)
      obtain ⟨vb340, w341, rfl, he342, hM⟩ := hZ
      rw [← hs343] at hM he342
      replace hM := hW.left (X := (FX ++ [(sa, sO va), (va, sV cy t9)])) hM
      replace hM : hW D cy ad b μ (lws cy ad la323 ν322) (FX ++ [(sa, sO va), (va, sV cy t9)] ++ sB cy a327 vb340 w341 (0 : Int32) s343) H := by simpa only [List.append_assoc, List.cons_append, List.nil_append] using hM
      replace hM := hW.right (X := (FX ++ [(sa, sO va), (va, sV cy t9)])) (T := (sB cy a327 vb340 w341 (0 : Int32) s343)) (by simpa only [List.append_assoc, List.cons_append, List.nil_append] using hM)
      refine h_callV (As := []) (rest := []) hx hb (hml.trans hl.1.symm) hown E hM hS xy_J4_toString_0e30d kw_725 (c_toS he342.1 he342.2) (ht_m List.mem_cons_self) gC_J4.1 rfl rfl (Nat.le_of_ble_eq_true rfl) ⟨(Nat.le_of_ble_eq_true rfl), (Nat.le_of_ble_eq_true rfl)⟩ ⟨(show _ ≤ 106 by omega), (show _ ≤ 148189 by omega)⟩ dX8_line_290 (fun rv H locs hZ hS => ?_)
      obtain ⟨a345, va346, rfl, hM⟩ := hZ
      replace hM := hW.left (X := (FX ++ [(sa, sO va), (va, sV cy t9)])) hM
      replace hM := hW.cutM (A := (FX ++ [(sa, sO va), (va, sV cy t9)])) hM
      replace hM : hW D cy ad b μ (lws cy ad la323 ν322) (FX ++ [(sa, sO va), (va, sV cy t9), (a345, sO va346), (va346, sV cy s343)]) H := by simpa only [List.append_assoc, List.cons_append, List.nil_append] using hM
      refine lv_astore (lv' := [(5, .ref a345), (11, .int y326), (10, .int (0 : Int32)), (9, .int (4 : Int32)), (8, .ref a315), (7, .ref a315), (0, .ref (la323 0 0)), (1, .int p1), (2, .int p2), (6, .int (2 : Int32))]) hx hb dX8_line_293 hl (by decide) rfl (fun ls hl => ?_)
      refine lv_iinc (v := (1 : Int32)) (lv' := [(10, .int (1 : Int32)), (5, .ref a345), (11, .int y326), (9, .int (4 : Int32)), (8, .ref a315), (7, .ref a315), (0, .ref (la323 0 0)), (1, .int p1), (2, .int p2), (6, .int (2 : Int32))]) hx hb dX8_line_295 hl (k := 2) rfl (by decide) (by decide) rfl (fun ls hl => ?_)
      refine lv_goto (tgt := 254) hx hb dX8_line_298 (by decide) ?_
      refine lv_iload hx hb dX8_line_254 (lv_at hl 0 rfl) ?_
      refine lv_iload hx hb dX8_line_256 (lv_at hl 3 rfl) ?_
      refine lv_icmp_ge (tgt := 301) hx hb dX8_line_258 (by decide) (fun c347 => ?_) (fun c347 => ?_)
      · exact absurd c347 (by decide)
      · refine lv_aload hx hb dX8_line_261 (lv_at hl 4 rfl) ?_
        refine lv_iload hx hb dX8_line_263 (lv_at hl 0 rfl) ?_
        refine l_iald hx hb E hM (hp_m hrow) (⟨by decide, by decide⟩ : gIn (1 : Int32) 4) (v := (gi ν322 (100 + 8 * p1.toNatClampNeg + (lSz ν p1.toNatClampNeg)) 1)) (congrArg (ν322.1 (100 + 8 * p1.toNatClampNeg + (lSz ν p1.toNatClampNeg))) (by decide : (1 : Int32).toNatClampNeg = 1)) dX8_line_265 ?_
        obtain ⟨y349, hy349, h⟩ := gnm h
        rw [← hy349]
        refine lv_istore (lv' := [(11, .int y349), (10, .int (1 : Int32)), (5, .ref a345), (9, .int (4 : Int32)), (8, .ref a315), (7, .ref a315), (0, .ref (la323 0 0)), (1, .int p1), (2, .int p2), (6, .int (2 : Int32))]) hx hb dX8_line_266 hl (by decide) rfl (fun ls hl => ?_)
        refine h_new hx hb hown E hM hS gC_J4 kw_549 kw_550 kw_63 (fs := [.null, .int (0 : Int32), .int (0 : Int32), .int (0 : Int32)]) (by decide +kernel) (show _ ≤ 106 by omega) (show _ ≤ 148189 by omega) dX8_line_268 (fun a350 H hM hS => ?_)
        replace hM : hW D cy ad b μ (lws cy ad la323 ν322) (FX ++ [(sa, sO va), (va, sV cy t9), (a345, sO va346), (va346, sV cy s343), (a350, .inr (10, [.null, .int (0 : Int32), .int (0 : Int32), .int (0 : Int32)]))]) H := by simpa only [List.append_assoc, List.cons_append, List.nil_append] using hM
        refine lv_dup hx hb dX8_line_271 rfl ?_
        replace hM := hW.right (X := (FX ++ [(sa, sO va), (va, sV cy t9), (a345, sO va346), (va346, sV cy s343)])) (T := [(a350, .inr (10, [.null, .int (0 : Int32), .int (0 : Int32), .int (0 : Int32)]))]) (by simpa only [List.append_assoc, List.cons_append, List.nil_append] using hM)
        refine h_callI (As := []) (rest := [.ref a350]) hx hb (hml.trans hl.1.symm) hown E hM hS xi_J4_init_da8c8 kw_551 c_binit rfl rfl (Nat.le_of_ble_eq_true rfl) ⟨(Nat.le_of_ble_eq_true rfl), (Nat.le_of_ble_eq_true rfl)⟩ ⟨(show _ ≤ 106 by omega), (show _ ≤ 148189 by omega)⟩ dX8_line_272 (fun rv H locs hZ hS => ?_)
        obtain ⟨vb351, rfl, hM⟩ := hZ
        replace hM := hW.left (X := (FX ++ [(sa, sO va), (va, sV cy t9), (a345, sO va346), (va346, sV cy s343)])) (T := (sB cy a350 vb351 16 (0 : Int32) ([] : List Nat))) hM
        replace hM : hW D cy ad b μ (lws cy ad la323 ν322) (FX ++ [(sa, sO va), (va, sV cy t9), (a345, sO va346), (va346, sV cy s343)] ++ sB cy a350 vb351 16 (0 : Int32) ([] : List Nat)) H := by simpa only [List.append_assoc, List.cons_append, List.nil_append] using hM
        refine lv_aload hx hb dX8_line_275 (lv_at hl 2 rfl) ?_
        obtain ⟨c352, h⟩ := gchk_e h
        obtain ⟨s356, hs356, h⟩ := gnm h
        replace hM := hW.right (X := (FX ++ [(sa, sO va), (va, sV cy t9), (a345, sO va346), (va346, sV cy s343)])) (T := (sB cy a350 vb351 16 (0 : Int32) ([] : List Nat))) (by simpa only [List.append_assoc, List.cons_append, List.nil_append] using hM)
        refine h_callV (As := [.ref a345]) (rest := []) hx hb (hml.trans hl.1.symm) hown E hM hS xy_J4_append_15ec4 kw_581 (c_appS (Or.inr ⟨List.mem_append_right _ (List.mem_append_right _ (List.mem_of_getElem? (i := 2) rfl)), List.mem_append_right _ (List.mem_append_right _ (List.mem_of_getElem? (i := 3) rfl))⟩) c352 (show ([] : List Nat).length ≤ 16 by decide) (show 16 ≤ 2056 by decide)) (ht_m List.mem_cons_self) gC_J4.1 rfl rfl (Nat.le_of_ble_eq_true rfl) ⟨(Nat.le_of_ble_eq_true rfl), (Nat.le_of_ble_eq_true rfl)⟩ ⟨(show _ ≤ 106 by omega), (show _ ≤ 148189 by omega)⟩ dX8_line_277 (fun rv H locs hZ hS => ?_)
        obtain ⟨vb353, w354, rfl, he355, hM⟩ := hZ
        rw [← hs356] at hM he355
        replace hM := hW.left (X := (FX ++ [(sa, sO va), (va, sV cy t9), (a345, sO va346), (va346, sV cy s343)])) hM
        replace hM : hW D cy ad b μ (lws cy ad la323 ν322) (FX ++ [(sa, sO va), (va, sV cy t9), (a345, sO va346), (va346, sV cy s343)] ++ sB cy a350 vb353 w354 (0 : Int32) s356) H := by simpa only [List.append_assoc, List.cons_append, List.nil_append] using hM
        refine va_ldcS hx hb hown (E.2.2.2.2.2.2.2.2.2.2.2.1 3 (by decide)) dX8_line_280 ?_
        obtain ⟨c357, h⟩ := gchk_e h
        obtain ⟨s361, hs361, h⟩ := gnm h
        replace hM := hW.right (X := (FX ++ [(sa, sO va), (va, sV cy t9), (a345, sO va346), (va346, sV cy s343)])) (T := (sB cy a350 vb353 w354 (0 : Int32) s356)) (by simpa only [List.append_assoc, List.cons_append, List.nil_append] using hM)
        refine h_callV (As := [.ref (ad (470 + 3))]) (rest := []) hx hb (hml.trans hl.1.symm) hown E hM hS xy_J4_append_15ec4 kw_581 (c_appS (sSrc_k (by decide : 3 < 9)) c357 he355.1 he355.2) (ht_m List.mem_cons_self) gC_J4.1 rfl rfl (Nat.le_of_ble_eq_true rfl) ⟨(Nat.le_of_ble_eq_true rfl), (Nat.le_of_ble_eq_true rfl)⟩ ⟨(show _ ≤ 106 by omega), (show _ ≤ 148189 by omega)⟩ dX8_line_282 (fun rv H locs hZ hS => ?_)
        obtain ⟨vb358, w359, rfl, he360, hM⟩ := hZ
        rw [← hs361] at hM he360
        replace hM := hW.left (X := (FX ++ [(sa, sO va), (va, sV cy t9), (a345, sO va346), (va346, sV cy s343)])) hM
        replace hM : hW D cy ad b μ (lws cy ad la323 ν322) (FX ++ [(sa, sO va), (va, sV cy t9), (a345, sO va346), (va346, sV cy s343)] ++ sB cy a350 vb358 w359 (0 : Int32) s361) H := by simpa only [List.append_assoc, List.cons_append, List.nil_append] using hM
        refine lv_iload hx hb dX8_line_285 (lv_at hl 0 rfl) ?_
        obtain ⟨c362, h⟩ := gchk_e h
        obtain ⟨s366, hs366, h⟩ := gnm h
        replace hM := hW.right (X := (FX ++ [(sa, sO va), (va, sV cy t9), (a345, sO va346), (va346, sV cy s343)])) (T := (sB cy a350 vb358 w359 (0 : Int32) s361)) (by simpa only [List.append_assoc, List.cons_append, List.nil_append] using hM)
        refine h_callV (As := [.int y349]) (rest := []) hx hb (hml.trans hl.1.symm) hown E hM hS xy_J4_append_bf812 kw_699 (by have h9 := c_appI (l := l) (D := D) (cy := cy) (ad := ad) (b := b) (μ := μ) (P := ((lws cy ad la323 ν322) ++ (FX ++ [(sa, sO va), (va, sV cy t9), (a345, sO va346), (va346, sV cy s343)]))) (ba := a350) (vb := vb358) (w := w359) (ml := 0) (U := s361) c362.1.2 c362.2 he360.1 he360.2; rwa [← gIn_e c362.1] at h9) (ht_m List.mem_cons_self) gC_J4.1 rfl rfl (Nat.le_of_ble_eq_true rfl) ⟨(Nat.le_of_ble_eq_true rfl), (Nat.le_of_ble_eq_true rfl)⟩ ⟨(show _ ≤ 106 by omega), (show _ ≤ 148189 by omega)⟩ dX8_line_287 (fun rv H locs hZ hS => ?_)
        obtain ⟨vb363, w364, rfl, he365, hM⟩ := hZ
        rw [← hs366] at hM he365
        replace hM := hW.left (X := (FX ++ [(sa, sO va), (va, sV cy t9), (a345, sO va346), (va346, sV cy s343)])) hM
        replace hM : hW D cy ad b μ (lws cy ad la323 ν322) (FX ++ [(sa, sO va), (va, sV cy t9), (a345, sO va346), (va346, sV cy s343)] ++ sB cy a350 vb363 w364 (0 : Int32) s366) H := by simpa only [List.append_assoc, List.cons_append, List.nil_append] using hM
        replace hM := hW.right (X := (FX ++ [(sa, sO va), (va, sV cy t9), (a345, sO va346), (va346, sV cy s343)])) (T := (sB cy a350 vb363 w364 (0 : Int32) s366)) (by simpa only [List.append_assoc, List.cons_append, List.nil_append] using hM)
        refine h_callV (As := []) (rest := []) hx hb (hml.trans hl.1.symm) hown E hM hS xy_J4_toString_0e30d kw_725 (c_toS he365.1 he365.2) (ht_m List.mem_cons_self) gC_J4.1 rfl rfl (Nat.le_of_ble_eq_true rfl) ⟨(Nat.le_of_ble_eq_true rfl), (Nat.le_of_ble_eq_true rfl)⟩ ⟨(show _ ≤ 106 by omega), (show _ ≤ 148189 by omega)⟩ dX8_line_290 (fun rv H locs hZ hS => ?_)
        obtain ⟨a368, va369, rfl, hM⟩ := hZ
        replace hM := hW.left (X := (FX ++ [(sa, sO va), (va, sV cy t9), (a345, sO va346), (va346, sV cy s343)])) hM
        replace hM := hW.cutM (A := (FX ++ [(sa, sO va), (va, sV cy t9), (a345, sO va346), (va346, sV cy s343)])) hM
        replace hM : hW D cy ad b μ (lws cy ad la323 ν322) (FX ++ [(sa, sO va), (va, sV cy t9), (a345, sO va346), (va346, sV cy s343), (a368, sO va369), (va369, sV cy s366)]) H := by simpa only [List.append_assoc, List.cons_append, List.nil_append] using hM
        refine lv_astore (lv' := [(5, .ref a368), (11, .int y349), (10, .int (1 : Int32)), (9, .int (4 : Int32)), (8, .ref a315), (7, .ref a315), (0, .ref (la323 0 0)), (1, .int p1), (2, .int p2), (6, .int (2 : Int32))]) hx hb dX8_line_293 hl (by decide) rfl (fun ls hl => ?_)
        refine lv_iinc (v := (2 : Int32)) (lv' := [(10, .int (2 : Int32)), (5, .ref a368), (11, .int y349), (9, .int (4 : Int32)), (8, .ref a315), (7, .ref a315), (0, .ref (la323 0 0)), (1, .int p1), (2, .int p2), (6, .int (2 : Int32))]) hx hb dX8_line_295 hl (k := 2) rfl (by decide) (by decide) rfl (fun ls hl => ?_)
        refine lv_goto (tgt := 254) hx hb dX8_line_298 (by decide) ?_
        refine lv_iload hx hb dX8_line_254 (lv_at hl 0 rfl) ?_
        refine lv_iload hx hb dX8_line_256 (lv_at hl 3 rfl) ?_
        refine lv_icmp_ge (tgt := 301) hx hb dX8_line_258 (by decide) (fun c370 => ?_) (fun c370 => ?_)
        · exact absurd c370 (by decide)
        · refine lv_aload hx hb dX8_line_261 (lv_at hl 4 rfl) ?_
          refine lv_iload hx hb dX8_line_263 (lv_at hl 0 rfl) ?_
          refine l_iald hx hb E hM (hp_m hrow) (⟨by decide, by decide⟩ : gIn (2 : Int32) 4) (v := (gi ν322 (100 + 8 * p1.toNatClampNeg + (lSz ν p1.toNatClampNeg)) 2)) (congrArg (ν322.1 (100 + 8 * p1.toNatClampNeg + (lSz ν p1.toNatClampNeg))) (by decide : (2 : Int32).toNatClampNeg = 2)) dX8_line_265 ?_
          obtain ⟨y372, hy372, h⟩ := gnm h
          rw [← hy372]
          refine lv_istore (lv' := [(11, .int y372), (10, .int (2 : Int32)), (5, .ref a368), (9, .int (4 : Int32)), (8, .ref a315), (7, .ref a315), (0, .ref (la323 0 0)), (1, .int p1), (2, .int p2), (6, .int (2 : Int32))]) hx hb dX8_line_266 hl (by decide) rfl (fun ls hl => ?_)
          refine h_new hx hb hown E hM hS gC_J4 kw_549 kw_550 kw_63 (fs := [.null, .int (0 : Int32), .int (0 : Int32), .int (0 : Int32)]) (by decide +kernel) (show _ ≤ 106 by omega) (show _ ≤ 148189 by omega) dX8_line_268 (fun a373 H hM hS => ?_)
          replace hM : hW D cy ad b μ (lws cy ad la323 ν322) (FX ++ [(sa, sO va), (va, sV cy t9), (a345, sO va346), (va346, sV cy s343), (a368, sO va369), (va369, sV cy s366), (a373, .inr (10, [.null, .int (0 : Int32), .int (0 : Int32), .int (0 : Int32)]))]) H := by simpa only [List.append_assoc, List.cons_append, List.nil_append] using hM
          refine lv_dup hx hb dX8_line_271 rfl ?_
          replace hM := hW.right (X := (FX ++ [(sa, sO va), (va, sV cy t9), (a345, sO va346), (va346, sV cy s343), (a368, sO va369), (va369, sV cy s366)])) (T := [(a373, .inr (10, [.null, .int (0 : Int32), .int (0 : Int32), .int (0 : Int32)]))]) (by simpa only [List.append_assoc, List.cons_append, List.nil_append] using hM)
          refine h_callI (As := []) (rest := [.ref a373]) hx hb (hml.trans hl.1.symm) hown E hM hS xi_J4_init_da8c8 kw_551 c_binit rfl rfl (Nat.le_of_ble_eq_true rfl) ⟨(Nat.le_of_ble_eq_true rfl), (Nat.le_of_ble_eq_true rfl)⟩ ⟨(show _ ≤ 106 by omega), (show _ ≤ 148189 by omega)⟩ dX8_line_272 (fun rv H locs hZ hS => ?_)
          obtain ⟨vb374, rfl, hM⟩ := hZ
          replace hM := hW.left (X := (FX ++ [(sa, sO va), (va, sV cy t9), (a345, sO va346), (va346, sV cy s343), (a368, sO va369), (va369, sV cy s366)])) (T := (sB cy a373 vb374 16 (0 : Int32) ([] : List Nat))) hM
          replace hM : hW D cy ad b μ (lws cy ad la323 ν322) (FX ++ [(sa, sO va), (va, sV cy t9), (a345, sO va346), (va346, sV cy s343), (a368, sO va369), (va369, sV cy s366)] ++ sB cy a373 vb374 16 (0 : Int32) ([] : List Nat)) H := by simpa only [List.append_assoc, List.cons_append, List.nil_append] using hM
          refine lv_aload hx hb dX8_line_275 (lv_at hl 2 rfl) ?_
          obtain ⟨c375, h⟩ := gchk_e h
          obtain ⟨s379, hs379, h⟩ := gnm h
          replace hM := hW.right (X := (FX ++ [(sa, sO va), (va, sV cy t9), (a345, sO va346), (va346, sV cy s343), (a368, sO va369), (va369, sV cy s366)])) (T := (sB cy a373 vb374 16 (0 : Int32) ([] : List Nat))) (by simpa only [List.append_assoc, List.cons_append, List.nil_append] using hM)
          refine h_callV (As := [.ref a368]) (rest := []) hx hb (hml.trans hl.1.symm) hown E hM hS xy_J4_append_15ec4 kw_581 (c_appS (Or.inr ⟨List.mem_append_right _ (List.mem_append_right _ (List.mem_of_getElem? (i := 4) rfl)), List.mem_append_right _ (List.mem_append_right _ (List.mem_of_getElem? (i := 5) rfl))⟩) c375 (show ([] : List Nat).length ≤ 16 by decide) (show 16 ≤ 2056 by decide)) (ht_m List.mem_cons_self) gC_J4.1 rfl rfl (Nat.le_of_ble_eq_true rfl) ⟨(Nat.le_of_ble_eq_true rfl), (Nat.le_of_ble_eq_true rfl)⟩ ⟨(show _ ≤ 106 by omega), (show _ ≤ 148189 by omega)⟩ dX8_line_277 (fun rv H locs hZ hS => ?_)
          obtain ⟨vb376, w377, rfl, he378, hM⟩ := hZ
          rw [← hs379] at hM he378
          replace hM := hW.left (X := (FX ++ [(sa, sO va), (va, sV cy t9), (a345, sO va346), (va346, sV cy s343), (a368, sO va369), (va369, sV cy s366)])) hM
          replace hM : hW D cy ad b μ (lws cy ad la323 ν322) (FX ++ [(sa, sO va), (va, sV cy t9), (a345, sO va346), (va346, sV cy s343), (a368, sO va369), (va369, sV cy s366)] ++ sB cy a373 vb376 w377 (0 : Int32) s379) H := by simpa only [List.append_assoc, List.cons_append, List.nil_append] using hM
          refine va_ldcS hx hb hown (E.2.2.2.2.2.2.2.2.2.2.2.1 3 (by decide)) dX8_line_280 ?_
          obtain ⟨c380, h⟩ := gchk_e h
          obtain ⟨s384, hs384, h⟩ := gnm h
          replace hM := hW.right (X := (FX ++ [(sa, sO va), (va, sV cy t9), (a345, sO va346), (va346, sV cy s343), (a368, sO va369), (va369, sV cy s366)])) (T := (sB cy a373 vb376 w377 (0 : Int32) s379)) (by simpa only [List.append_assoc, List.cons_append, List.nil_append] using hM)
          refine h_callV (As := [.ref (ad (470 + 3))]) (rest := []) hx hb (hml.trans hl.1.symm) hown E hM hS xy_J4_append_15ec4 kw_581 (c_appS (sSrc_k (by decide : 3 < 9)) c380 he378.1 he378.2) (ht_m List.mem_cons_self) gC_J4.1 rfl rfl (Nat.le_of_ble_eq_true rfl) ⟨(Nat.le_of_ble_eq_true rfl), (Nat.le_of_ble_eq_true rfl)⟩ ⟨(show _ ≤ 106 by omega), (show _ ≤ 148189 by omega)⟩ dX8_line_282 (fun rv H locs hZ hS => ?_)
          obtain ⟨vb381, w382, rfl, he383, hM⟩ := hZ
          rw [← hs384] at hM he383
          replace hM := hW.left (X := (FX ++ [(sa, sO va), (va, sV cy t9), (a345, sO va346), (va346, sV cy s343), (a368, sO va369), (va369, sV cy s366)])) hM
          replace hM : hW D cy ad b μ (lws cy ad la323 ν322) (FX ++ [(sa, sO va), (va, sV cy t9), (a345, sO va346), (va346, sV cy s343), (a368, sO va369), (va369, sV cy s366)] ++ sB cy a373 vb381 w382 (0 : Int32) s384) H := by simpa only [List.append_assoc, List.cons_append, List.nil_append] using hM
          refine lv_iload hx hb dX8_line_285 (lv_at hl 0 rfl) ?_
          obtain ⟨c385, h⟩ := gchk_e h
          obtain ⟨s389, hs389, h⟩ := gnm h
          replace hM := hW.right (X := (FX ++ [(sa, sO va), (va, sV cy t9), (a345, sO va346), (va346, sV cy s343), (a368, sO va369), (va369, sV cy s366)])) (T := (sB cy a373 vb381 w382 (0 : Int32) s384)) (by simpa only [List.append_assoc, List.cons_append, List.nil_append] using hM)
          refine h_callV (As := [.int y372]) (rest := []) hx hb (hml.trans hl.1.symm) hown E hM hS xy_J4_append_bf812 kw_699 (by have h9 := c_appI (l := l) (D := D) (cy := cy) (ad := ad) (b := b) (μ := μ) (P := ((lws cy ad la323 ν322) ++ (FX ++ [(sa, sO va), (va, sV cy t9), (a345, sO va346), (va346, sV cy s343), (a368, sO va369), (va369, sV cy s366)]))) (ba := a373) (vb := vb381) (w := w382) (ml := 0) (U := s384) c385.1.2 c385.2 he383.1 he383.2; rwa [← gIn_e c385.1] at h9) (ht_m List.mem_cons_self) gC_J4.1 rfl rfl (Nat.le_of_ble_eq_true rfl) ⟨(Nat.le_of_ble_eq_true rfl), (Nat.le_of_ble_eq_true rfl)⟩ ⟨(show _ ≤ 106 by omega), (show _ ≤ 148189 by omega)⟩ dX8_line_287 (fun rv H locs hZ hS => ?_)
          obtain ⟨vb386, w387, rfl, he388, hM⟩ := hZ
          rw [← hs389] at hM he388
          replace hM := hW.left (X := (FX ++ [(sa, sO va), (va, sV cy t9), (a345, sO va346), (va346, sV cy s343), (a368, sO va369), (va369, sV cy s366)])) hM
          replace hM : hW D cy ad b μ (lws cy ad la323 ν322) (FX ++ [(sa, sO va), (va, sV cy t9), (a345, sO va346), (va346, sV cy s343), (a368, sO va369), (va369, sV cy s366)] ++ sB cy a373 vb386 w387 (0 : Int32) s389) H := by simpa only [List.append_assoc, List.cons_append, List.nil_append] using hM
          replace hM := hW.right (X := (FX ++ [(sa, sO va), (va, sV cy t9), (a345, sO va346), (va346, sV cy s343), (a368, sO va369), (va369, sV cy s366)])) (T := (sB cy a373 vb386 w387 (0 : Int32) s389)) (by simpa only [List.append_assoc, List.cons_append, List.nil_append] using hM)
          refine h_callV (As := []) (rest := []) hx hb (hml.trans hl.1.symm) hown E hM hS xy_J4_toString_0e30d kw_725 (c_toS he388.1 he388.2) (ht_m List.mem_cons_self) gC_J4.1 rfl rfl (Nat.le_of_ble_eq_true rfl) ⟨(Nat.le_of_ble_eq_true rfl), (Nat.le_of_ble_eq_true rfl)⟩ ⟨(show _ ≤ 106 by omega), (show _ ≤ 148189 by omega)⟩ dX8_line_290 (fun rv H locs hZ hS => ?_)
          obtain ⟨a391, va392, rfl, hM⟩ := hZ
          replace hM := hW.left (X := (FX ++ [(sa, sO va), (va, sV cy t9), (a345, sO va346), (va346, sV cy s343), (a368, sO va369), (va369, sV cy s366)])) hM
          replace hM := hW.cutM (A := (FX ++ [(sa, sO va), (va, sV cy t9), (a345, sO va346), (va346, sV cy s343), (a368, sO va369), (va369, sV cy s366)])) hM
          replace hM : hW D cy ad b μ (lws cy ad la323 ν322) (FX ++ [(sa, sO va), (va, sV cy t9), (a345, sO va346), (va346, sV cy s343), (a368, sO va369), (va369, sV cy s366), (a391, sO va392), (va392, sV cy s389)]) H := by simpa only [List.append_assoc, List.cons_append, List.nil_append] using hM
          refine lv_astore (lv' := [(5, .ref a391), (11, .int y372), (10, .int (2 : Int32)), (9, .int (4 : Int32)), (8, .ref a315), (7, .ref a315), (0, .ref (la323 0 0)), (1, .int p1), (2, .int p2), (6, .int (2 : Int32))]) hx hb dX8_line_293 hl (by decide) rfl (fun ls hl => ?_)
          refine lv_iinc (v := (3 : Int32)) (lv' := [(10, .int (3 : Int32)), (5, .ref a391), (11, .int y372), (9, .int (4 : Int32)), (8, .ref a315), (7, .ref a315), (0, .ref (la323 0 0)), (1, .int p1), (2, .int p2), (6, .int (2 : Int32))]) hx hb dX8_line_295 hl (k := 2) rfl (by decide) (by decide) rfl (fun ls hl => ?_)
          refine lv_goto (tgt := 254) hx hb dX8_line_298 (by decide) ?_
          refine lv_iload hx hb dX8_line_254 (lv_at hl 0 rfl) ?_
          refine lv_iload hx hb dX8_line_256 (lv_at hl 3 rfl) ?_
          refine lv_icmp_ge (tgt := 301) hx hb dX8_line_258 (by decide) (fun c393 => ?_) (fun c393 => ?_)
          · exact absurd c393 (by decide)
          · refine lv_aload hx hb dX8_line_261 (lv_at hl 4 rfl) ?_
            refine lv_iload hx hb dX8_line_263 (lv_at hl 0 rfl) ?_
            refine l_iald hx hb E hM (hp_m hrow) (⟨by decide, by decide⟩ : gIn (3 : Int32) 4) (v := (gi ν322 (100 + 8 * p1.toNatClampNeg + (lSz ν p1.toNatClampNeg)) 3)) (congrArg (ν322.1 (100 + 8 * p1.toNatClampNeg + (lSz ν p1.toNatClampNeg))) (by decide : (3 : Int32).toNatClampNeg = 3)) dX8_line_265 ?_
            obtain ⟨y395, hy395, h⟩ := gnm h
            rw [← hy395]
            refine lv_istore (lv' := [(11, .int y395), (10, .int (3 : Int32)), (5, .ref a391), (9, .int (4 : Int32)), (8, .ref a315), (7, .ref a315), (0, .ref (la323 0 0)), (1, .int p1), (2, .int p2), (6, .int (2 : Int32))]) hx hb dX8_line_266 hl (by decide) rfl (fun ls hl => ?_)
            refine h_new hx hb hown E hM hS gC_J4 kw_549 kw_550 kw_63 (fs := [.null, .int (0 : Int32), .int (0 : Int32), .int (0 : Int32)]) (by decide +kernel) (show _ ≤ 106 by omega) (show _ ≤ 148189 by omega) dX8_line_268 (fun a396 H hM hS => ?_)
            replace hM : hW D cy ad b μ (lws cy ad la323 ν322) (FX ++ [(sa, sO va), (va, sV cy t9), (a345, sO va346), (va346, sV cy s343), (a368, sO va369), (va369, sV cy s366), (a391, sO va392), (va392, sV cy s389), (a396, .inr (10, [.null, .int (0 : Int32), .int (0 : Int32), .int (0 : Int32)]))]) H := by simpa only [List.append_assoc, List.cons_append, List.nil_append] using hM
            refine lv_dup hx hb dX8_line_271 rfl ?_
            replace hM := hW.right (X := (FX ++ [(sa, sO va), (va, sV cy t9), (a345, sO va346), (va346, sV cy s343), (a368, sO va369), (va369, sV cy s366), (a391, sO va392), (va392, sV cy s389)])) (T := [(a396, .inr (10, [.null, .int (0 : Int32), .int (0 : Int32), .int (0 : Int32)]))]) (by simpa only [List.append_assoc, List.cons_append, List.nil_append] using hM)
            refine h_callI (As := []) (rest := [.ref a396]) hx hb (hml.trans hl.1.symm) hown E hM hS xi_J4_init_da8c8 kw_551 c_binit rfl rfl (Nat.le_of_ble_eq_true rfl) ⟨(Nat.le_of_ble_eq_true rfl), (Nat.le_of_ble_eq_true rfl)⟩ ⟨(show _ ≤ 106 by omega), (show _ ≤ 148189 by omega)⟩ dX8_line_272 (fun rv H locs hZ hS => ?_)
            obtain ⟨vb397, rfl, hM⟩ := hZ
            replace hM := hW.left (X := (FX ++ [(sa, sO va), (va, sV cy t9), (a345, sO va346), (va346, sV cy s343), (a368, sO va369), (va369, sV cy s366), (a391, sO va392), (va392, sV cy s389)])) (T := (sB cy a396 vb397 16 (0 : Int32) ([] : List Nat))) hM
            replace hM : hW D cy ad b μ (lws cy ad la323 ν322) (FX ++ [(sa, sO va), (va, sV cy t9), (a345, sO va346), (va346, sV cy s343), (a368, sO va369), (va369, sV cy s366), (a391, sO va392), (va392, sV cy s389)] ++ sB cy a396 vb397 16 (0 : Int32) ([] : List Nat)) H := by simpa only [List.append_assoc, List.cons_append, List.nil_append] using hM
            refine lv_aload hx hb dX8_line_275 (lv_at hl 2 rfl) ?_
            obtain ⟨c398, h⟩ := gchk_e h
            obtain ⟨s402, hs402, h⟩ := gnm h
            replace hM := hW.right (X := (FX ++ [(sa, sO va), (va, sV cy t9), (a345, sO va346), (va346, sV cy s343), (a368, sO va369), (va369, sV cy s366), (a391, sO va392), (va392, sV cy s389)])) (T := (sB cy a396 vb397 16 (0 : Int32) ([] : List Nat))) (by simpa only [List.append_assoc, List.cons_append, List.nil_append] using hM)
            refine h_callV (As := [.ref a391]) (rest := []) hx hb (hml.trans hl.1.symm) hown E hM hS xy_J4_append_15ec4 kw_581 (c_appS (Or.inr ⟨List.mem_append_right _ (List.mem_append_right _ (List.mem_of_getElem? (i := 6) rfl)), List.mem_append_right _ (List.mem_append_right _ (List.mem_of_getElem? (i := 7) rfl))⟩) c398 (show ([] : List Nat).length ≤ 16 by decide) (show 16 ≤ 2056 by decide)) (ht_m List.mem_cons_self) gC_J4.1 rfl rfl (Nat.le_of_ble_eq_true rfl) ⟨(Nat.le_of_ble_eq_true rfl), (Nat.le_of_ble_eq_true rfl)⟩ ⟨(show _ ≤ 106 by omega), (show _ ≤ 148189 by omega)⟩ dX8_line_277 (fun rv H locs hZ hS => ?_)
            obtain ⟨vb399, w400, rfl, he401, hM⟩ := hZ
            rw [← hs402] at hM he401
            replace hM := hW.left (X := (FX ++ [(sa, sO va), (va, sV cy t9), (a345, sO va346), (va346, sV cy s343), (a368, sO va369), (va369, sV cy s366), (a391, sO va392), (va392, sV cy s389)])) hM
            replace hM : hW D cy ad b μ (lws cy ad la323 ν322) (FX ++ [(sa, sO va), (va, sV cy t9), (a345, sO va346), (va346, sV cy s343), (a368, sO va369), (va369, sV cy s366), (a391, sO va392), (va392, sV cy s389)] ++ sB cy a396 vb399 w400 (0 : Int32) s402) H := by simpa only [List.append_assoc, List.cons_append, List.nil_append] using hM
            refine va_ldcS hx hb hown (E.2.2.2.2.2.2.2.2.2.2.2.1 3 (by decide)) dX8_line_280 ?_
            obtain ⟨c403, h⟩ := gchk_e h
            obtain ⟨s407, hs407, h⟩ := gnm h
            replace hM := hW.right (X := (FX ++ [(sa, sO va), (va, sV cy t9), (a345, sO va346), (va346, sV cy s343), (a368, sO va369), (va369, sV cy s366), (a391, sO va392), (va392, sV cy s389)])) (T := (sB cy a396 vb399 w400 (0 : Int32) s402)) (by simpa only [List.append_assoc, List.cons_append, List.nil_append] using hM)
            refine h_callV (As := [.ref (ad (470 + 3))]) (rest := []) hx hb (hml.trans hl.1.symm) hown E hM hS xy_J4_append_15ec4 kw_581 (c_appS (sSrc_k (by decide : 3 < 9)) c403 he401.1 he401.2) (ht_m List.mem_cons_self) gC_J4.1 rfl rfl (Nat.le_of_ble_eq_true rfl) ⟨(Nat.le_of_ble_eq_true rfl), (Nat.le_of_ble_eq_true rfl)⟩ ⟨(show _ ≤ 106 by omega), (show _ ≤ 148189 by omega)⟩ dX8_line_282 (fun rv H locs hZ hS => ?_)
            obtain ⟨vb404, w405, rfl, he406, hM⟩ := hZ
            rw [← hs407] at hM he406
            replace hM := hW.left (X := (FX ++ [(sa, sO va), (va, sV cy t9), (a345, sO va346), (va346, sV cy s343), (a368, sO va369), (va369, sV cy s366), (a391, sO va392), (va392, sV cy s389)])) hM
            replace hM : hW D cy ad b μ (lws cy ad la323 ν322) (FX ++ [(sa, sO va), (va, sV cy t9), (a345, sO va346), (va346, sV cy s343), (a368, sO va369), (va369, sV cy s366), (a391, sO va392), (va392, sV cy s389)] ++ sB cy a396 vb404 w405 (0 : Int32) s407) H := by simpa only [List.append_assoc, List.cons_append, List.nil_append] using hM
            refine lv_iload hx hb dX8_line_285 (lv_at hl 0 rfl) ?_
            obtain ⟨c408, h⟩ := gchk_e h
            obtain ⟨s412, hs412, h⟩ := gnm h
            replace hM := hW.right (X := (FX ++ [(sa, sO va), (va, sV cy t9), (a345, sO va346), (va346, sV cy s343), (a368, sO va369), (va369, sV cy s366), (a391, sO va392), (va392, sV cy s389)])) (T := (sB cy a396 vb404 w405 (0 : Int32) s407)) (by simpa only [List.append_assoc, List.cons_append, List.nil_append] using hM)
            refine h_callV (As := [.int y395]) (rest := []) hx hb (hml.trans hl.1.symm) hown E hM hS xy_J4_append_bf812 kw_699 (by have h9 := c_appI (l := l) (D := D) (cy := cy) (ad := ad) (b := b) (μ := μ) (P := ((lws cy ad la323 ν322) ++ (FX ++ [(sa, sO va), (va, sV cy t9), (a345, sO va346), (va346, sV cy s343), (a368, sO va369), (va369, sV cy s366), (a391, sO va392), (va392, sV cy s389)]))) (ba := a396) (vb := vb404) (w := w405) (ml := 0) (U := s407) c408.1.2 c408.2 he406.1 he406.2; rwa [← gIn_e c408.1] at h9) (ht_m List.mem_cons_self) gC_J4.1 rfl rfl (Nat.le_of_ble_eq_true rfl) ⟨(Nat.le_of_ble_eq_true rfl), (Nat.le_of_ble_eq_true rfl)⟩ ⟨(show _ ≤ 106 by omega), (show _ ≤ 148189 by omega)⟩ dX8_line_287 (fun rv H locs hZ hS => ?_)
            obtain ⟨vb409, w410, rfl, he411, hM⟩ := hZ
            rw [← hs412] at hM he411
            replace hM := hW.left (X := (FX ++ [(sa, sO va), (va, sV cy t9), (a345, sO va346), (va346, sV cy s343), (a368, sO va369), (va369, sV cy s366), (a391, sO va392), (va392, sV cy s389)])) hM
            replace hM : hW D cy ad b μ (lws cy ad la323 ν322) (FX ++ [(sa, sO va), (va, sV cy t9), (a345, sO va346), (va346, sV cy s343), (a368, sO va369), (va369, sV cy s366), (a391, sO va392), (va392, sV cy s389)] ++ sB cy a396 vb409 w410 (0 : Int32) s412) H := by simpa only [List.append_assoc, List.cons_append, List.nil_append] using hM
            replace hM := hW.right (X := (FX ++ [(sa, sO va), (va, sV cy t9), (a345, sO va346), (va346, sV cy s343), (a368, sO va369), (va369, sV cy s366), (a391, sO va392), (va392, sV cy s389)])) (T := (sB cy a396 vb409 w410 (0 : Int32) s412)) (by simpa only [List.append_assoc, List.cons_append, List.nil_append] using hM)
            refine h_callV (As := []) (rest := []) hx hb (hml.trans hl.1.symm) hown E hM hS xy_J4_toString_0e30d kw_725 (c_toS he411.1 he411.2) (ht_m List.mem_cons_self) gC_J4.1 rfl rfl (Nat.le_of_ble_eq_true rfl) ⟨(Nat.le_of_ble_eq_true rfl), (Nat.le_of_ble_eq_true rfl)⟩ ⟨(show _ ≤ 106 by omega), (show _ ≤ 148189 by omega)⟩ dX8_line_290 (fun rv H locs hZ hS => ?_)
            obtain ⟨a414, va415, rfl, hM⟩ := hZ
            replace hM := hW.left (X := (FX ++ [(sa, sO va), (va, sV cy t9), (a345, sO va346), (va346, sV cy s343), (a368, sO va369), (va369, sV cy s366), (a391, sO va392), (va392, sV cy s389)])) hM
            replace hM := hW.cutM (A := (FX ++ [(sa, sO va), (va, sV cy t9), (a345, sO va346), (va346, sV cy s343), (a368, sO va369), (va369, sV cy s366), (a391, sO va392), (va392, sV cy s389)])) hM
            replace hM : hW D cy ad b μ (lws cy ad la323 ν322) (FX ++ [(sa, sO va), (va, sV cy t9), (a345, sO va346), (va346, sV cy s343), (a368, sO va369), (va369, sV cy s366), (a391, sO va392), (va392, sV cy s389), (a414, sO va415), (va415, sV cy s412)]) H := by simpa only [List.append_assoc, List.cons_append, List.nil_append] using hM
            refine lv_astore (lv' := [(5, .ref a414), (11, .int y395), (10, .int (3 : Int32)), (9, .int (4 : Int32)), (8, .ref a315), (7, .ref a315), (0, .ref (la323 0 0)), (1, .int p1), (2, .int p2), (6, .int (2 : Int32))]) hx hb dX8_line_293 hl (by decide) rfl (fun ls hl => ?_)
            refine lv_iinc (v := (4 : Int32)) (lv' := [(10, .int (4 : Int32)), (5, .ref a414), (11, .int y395), (9, .int (4 : Int32)), (8, .ref a315), (7, .ref a315), (0, .ref (la323 0 0)), (1, .int p1), (2, .int p2), (6, .int (2 : Int32))]) hx hb dX8_line_295 hl (k := 2) rfl (by decide) (by decide) rfl (fun ls hl => ?_)
            refine lv_goto (tgt := 254) hx hb dX8_line_298 (by decide) ?_
            refine lv_iload hx hb dX8_line_254 (lv_at hl 0 rfl) ?_
            refine lv_iload hx hb dX8_line_256 (lv_at hl 3 rfl) ?_
            refine lv_icmp_ge (tgt := 301) hx hb dX8_line_258 (by decide) (fun c416 => ?_) (fun c416 => ?_)
            · refine lv_iinc (v := (3 : Int32)) (lv' := [(6, .int (3 : Int32)), (10, .int (4 : Int32)), (5, .ref a414), (11, .int y395), (9, .int (4 : Int32)), (8, .ref a315), (7, .ref a315), (0, .ref (la323 0 0)), (1, .int p1), (2, .int p2)]) hx hb dX8_line_301 hl (k := 9) rfl (by decide) (by decide) rfl (fun ls hl => ?_)
              refine lv_goto (tgt := 145) hx hb dX8_line_304 (by decide) ?_
              replace hM := hW.cutM (A := (FX)) (B := [(sa, sO va), (va, sV cy t9)]) (C := [(a345, sO va346), (va346, sV cy s343), (a368, sO va369), (va369, sV cy s366), (a391, sO va392), (va392, sV cy s389), (a414, sO va415), (va415, sV cy s412)]) (by simpa only [List.append_assoc, List.cons_append, List.nil_append] using hM)
              replace hM : hW D cy ad b μ (lws cy ad la323 ν322) (FX ++ [(a345, sO va346), (va346, sV cy s343), (a368, sO va369), (va369, sV cy s366), (a391, sO va392), (va392, sV cy s389), (a414, sO va415), (va415, sV cy s412)]) H := (by simpa only [List.append_assoc, List.cons_append, List.nil_append] using hM)
              replace hM := hW.cutM (A := (FX)) (B := [(a345, sO va346), (va346, sV cy s343)]) (C := [(a368, sO va369), (va369, sV cy s366), (a391, sO va392), (va392, sV cy s389), (a414, sO va415), (va415, sV cy s412)]) (by simpa only [List.append_assoc, List.cons_append, List.nil_append] using hM)
              replace hM : hW D cy ad b μ (lws cy ad la323 ν322) (FX ++ [(a368, sO va369), (va369, sV cy s366), (a391, sO va392), (va392, sV cy s389), (a414, sO va415), (va415, sV cy s412)]) H := (by simpa only [List.append_assoc, List.cons_append, List.nil_append] using hM)
              replace hM := hW.cutM (A := (FX)) (B := [(a368, sO va369), (va369, sV cy s366)]) (C := [(a391, sO va392), (va392, sV cy s389), (a414, sO va415), (va415, sV cy s412)]) (by simpa only [List.append_assoc, List.cons_append, List.nil_append] using hM)
              replace hM : hW D cy ad b μ (lws cy ad la323 ν322) (FX ++ [(a391, sO va392), (va392, sV cy s389), (a414, sO va415), (va415, sV cy s412)]) H := (by simpa only [List.append_assoc, List.cons_append, List.nil_append] using hM)
              replace hM := hW.cutM (A := (FX)) (B := [(a391, sO va392), (va392, sV cy s389)]) (C := [(a414, sO va415), (va415, sV cy s412)]) (by simpa only [List.append_assoc, List.cons_append, List.nil_append] using hM)
              replace hM : hW D cy ad b μ (lws cy ad la323 ν322) (FX ++ [(a414, sO va415), (va415, sV cy s412)]) H := (by simpa only [List.append_assoc, List.cons_append, List.nil_append] using hM)
              exact wj_L_line_j3 h F E hoo hs (by omega) (by omega) hM hS (lv_sub hl [7, 8, 9, 2, 0] rfl)
            · exact absurd (by decide) c416
def j_L_line_j1 (p1 p2 : Int32) (t9 : List Nat) (ν μ : gM) : Option (List Nat × gM) :=
  Option.bind (f_L_mod (p2 >>> ((9 : Int32) &&& 31)) (3 : Int32) μ) (fun q179 => if (q179 < (1 : Int32)) then gchk ((([] : List Nat)).length + (t9).length ≤ 1024) (Option.bind (some (([] : List Nat) ++ t9)) (fun s187 => gchk ((s187).length + (sTx 1).length ≤ 1024) (Option.bind (some (s187 ++ sTx 1)) (fun s192 => some (s192, ν))))) else Option.bind (f_L_mod (p2 >>> ((1 : Int32) &&& 31)) (4000 : Int32) μ) (fun q197 => Option.bind (f_L_mod (p2 >>> (((3 : Int32) + (1 : Int32)) &&& 31)) (4000 : Int32) μ) (fun q198 => Option.bind (f_L_mod (p2 >>> (((11 : Int32) + (1 : Int32)) &&& 31)) (90 : Int32) μ) (fun q199 => Option.bind (f_L_mod (p2 >>> (((15 : Int32) + (1 : Int32)) &&& 31)) (90 : Int32) μ) (fun q200 => gchk (gIn p1 (lLs ν)) (gchk (lSz ν p1.toNatClampNeg ≠ 0 ∧ lSz ν p1.toNatClampNeg < 8) (Option.bind (some (lgrow ν p1.toNatClampNeg (upd (upd (upd (upd (fun _ => 0) 0 q197) 1 q198) 2 ((1 : Int32) + q199)) 3 ((1 : Int32) + q200)))) (fun ν203 => Option.bind (some (gi ν203 (100 + 8 * p1.toNatClampNeg + (lSz ν p1.toNatClampNeg)) 0)) (fun y207 => gchk ((([] : List Nat)).length + (t9).length ≤ 1024) (Option.bind (some (([] : List Nat) ++ t9)) (fun s214 => gchk ((s214).length + (sTx 3).length ≤ 1024) (Option.bind (some (s214 ++ sTx 3)) (fun s219 => gchk (gIn y207 1000000 ∧ (s219).length + (sdig y207.toNatClampNeg).length ≤ 1024) (Option.bind (some (s219 ++ sdig y207.toNatClampNeg)) (fun s224 => Option.bind (some (gi ν203 (100 + 8 * p1.toNatClampNeg + (lSz ν p1.toNatClampNeg)) 1)) (fun y230 => gchk ((([] : List Nat)).length + (s224).length ≤ 1024) (Option.bind (some (([] : List Nat) ++ s224)) (fun s237 => gchk ((s237).length + (sTx 3).length ≤ 1024) (Option.bind (some (s237 ++ sTx 3)) (fun s242 => gchk (gIn y230 1000000 ∧ (s242).length + (sdig y230.toNatClampNeg).length ≤ 1024) (Option.bind (some (s242 ++ sdig y230.toNatClampNeg)) (fun s247 => Option.bind (some (gi ν203 (100 + 8 * p1.toNatClampNeg + (lSz ν p1.toNatClampNeg)) 2)) (fun y253 => gchk ((([] : List Nat)).length + (s247).length ≤ 1024) (Option.bind (some (([] : List Nat) ++ s247)) (fun s260 => gchk ((s260).length + (sTx 3).length ≤ 1024) (Option.bind (some (s260 ++ sTx 3)) (fun s265 => gchk (gIn y253 1000000 ∧ (s265).length + (sdig y253.toNatClampNeg).length ≤ 1024) (Option.bind (some (s265 ++ sdig y253.toNatClampNeg)) (fun s270 => Option.bind (some (gi ν203 (100 + 8 * p1.toNatClampNeg + (lSz ν p1.toNatClampNeg)) 3)) (fun y276 => gchk ((([] : List Nat)).length + (s270).length ≤ 1024) (Option.bind (some (([] : List Nat) ++ s270)) (fun s283 => gchk ((s283).length + (sTx 3).length ≤ 1024) (Option.bind (some (s283 ++ sTx 3)) (fun s288 => gchk (gIn y276 1000000 ∧ (s288).length + (sdig y276.toNatClampNeg).length ≤ 1024) (Option.bind (some (s288 ++ sdig y276.toNatClampNeg)) (fun s293 => j_L_line_j2 p1 p2 s293 ν203 μ))))))))))))))))))))))))))))))))))))
set_option maxHeartbeats 20000000 in
set_option maxRecDepth 100000 in
theorem wj_L_line_j1 {p : Program} {l : Launch} {e : Env} {s : State} {m : MethodId} {args : Array Value} {below : List Frame} {meth : Method} {c : Code} {D : va_G} {cy : Nat → ClassId} {ad : Nat → Nat} {b o0 sa va : Nat} {la : Nat → Nat → Nat} {FX : va_W} {μ ν : gM} {p1 p2 : Int32} {t9 : List Nat} {o : List Nat × gM} {cells slots : Nat} (h : j_L_line_j1 p1 p2 t9 ν μ = some o) (F : gF p s m meth c cX8_line RX8 12 (some (.object "java/lang/String"))) (E : hE l D cy ad b s) (hoo : la 0 0 = o0) (hs : lS ν) (hc : cells + 64 ≤ 106) (hsl : slots + 90544 ≤ 148189) {H : Heap} {locs : List Loc} {ls : Array Slot} (hM : hW D cy ad b μ (lws cy ad la ν) (FX ++ [(sa, sO va), (va, sV cy t9)]) H) (hS : va_S (hA b) s.heap H locs) (hl : lv_has ls 12 [(0, .ref (la 0 0)), (1, .int p1), (2, .int p2), (5, .ref sa), (6, .int (1 : Int32))]) : W p l e ({ frames := 7, cells := 106, slots := 148189, locals := 171 } : Room) s m args below meth c H locs cells slots (MQ below (hQ b (fun rv H => ∃ la1 : Nat → Nat → Nat, ∃ sa va : Nat, rv = some (.ref sa) ∧ lS o.2 ∧ hW D cy ad b μ (lws cy ad la1 o.2) (FX ++ [(sa, sO va), (va, sV cy o.1)]) H ∧ la1 0 0 = o0)) args s 106 148189 (hA b)) (F0 m 145 ls []) := by
  obtain ⟨hx, hb, hml, hown, hlocks, hr⟩ := id F
  have hY := lY0_self (cy := cy) (ad := ad) (la := la) hs
  unfold j_L_line_j1 at h
  refine lv_iload hx hb dX8_line_145 (lv_at hl 4 rfl) ?_
  refine lv_iload_n hx hb dX8_line_147 rfl (lv_at hl 2 rfl) ?_
  refine lv_bipush (v := (9 : Int32)) hx hb dX8_line_148 (by decide) ?_
  refine lv_ishr hx hb dX8_line_150 ?_
  refine lv_iconst (v := (3 : Int32)) hx hb dX8_line_151 (by decide) ?_
  obtain ⟨q179, hq179, h⟩ := gbind_e h
  refine h_callSCN (As := [.int (p2 >>> ((9 : Int32) &&& 31)), .int (3 : Int32)]) (rest := [.int (1 : Int32)]) hx hb (hml.trans hl.1.symm) hown E hM hS hy_L_mod (E.2.1.2.2.1 _ (List.mem_of_getElem? (i := 1) rfl)) (c_L_mod hq179) rfl rfl (Nat.le_of_ble_eq_true rfl) ⟨(Nat.le_of_ble_eq_true rfl), (Nat.le_of_ble_eq_true rfl)⟩ ⟨(show _ ≤ 106 by omega), (show _ ≤ 148189 by omega)⟩ dX8_line_152 (fun H locs hM hS => ?_)
  refine lv_icmp_gt (tgt := 307) hx hb dX8_line_155 (by decide) (fun c180 => ?_) (fun c180 => ?_)
  · replace h := gif_t c180 h
    refine h_new hx hb hown E hM hS gC_J4 kw_549 kw_550 kw_63 (fs := [.null, .int (0 : Int32), .int (0 : Int32), .int (0 : Int32)]) (by decide +kernel) (show _ ≤ 106 by omega) (show _ ≤ 148189 by omega) dX8_line_307 (fun a181 H hM hS => ?_)
    replace hM : hW D cy ad b μ (lws cy ad la ν) (FX ++ [(sa, sO va), (va, sV cy t9), (a181, .inr (10, [.null, .int (0 : Int32), .int (0 : Int32), .int (0 : Int32)]))]) H := by simpa only [List.append_assoc, List.cons_append, List.nil_append] using hM
    refine lv_dup hx hb dX8_line_310 rfl ?_
    replace hM := hW.right (X := (FX ++ [(sa, sO va), (va, sV cy t9)])) (T := [(a181, .inr (10, [.null, .int (0 : Int32), .int (0 : Int32), .int (0 : Int32)]))]) (by simpa only [List.append_assoc, List.cons_append, List.nil_append] using hM)
    refine h_callI (As := []) (rest := [.ref a181]) hx hb (hml.trans hl.1.symm) hown E hM hS xi_J4_init_da8c8 kw_551 c_binit rfl rfl (Nat.le_of_ble_eq_true rfl) ⟨(Nat.le_of_ble_eq_true rfl), (Nat.le_of_ble_eq_true rfl)⟩ ⟨(show _ ≤ 106 by omega), (show _ ≤ 148189 by omega)⟩ dX8_line_311 (fun rv H locs hZ hS => ?_)
    obtain ⟨vb182, rfl, hM⟩ := hZ
    replace hM := hW.left (X := (FX ++ [(sa, sO va), (va, sV cy t9)])) (T := (sB cy a181 vb182 16 (0 : Int32) ([] : List Nat))) hM
    replace hM : hW D cy ad b μ (lws cy ad la ν) (FX ++ [(sa, sO va), (va, sV cy t9)] ++ sB cy a181 vb182 16 (0 : Int32) ([] : List Nat)) H := by simpa only [List.append_assoc, List.cons_append, List.nil_append] using hM
    refine lv_aload hx hb dX8_line_314 (lv_at hl 3 rfl) ?_
    obtain ⟨c183, h⟩ := gchk_e h
    obtain ⟨s187, hs187, h⟩ := gnm h
    replace hM := hW.right (X := (FX ++ [(sa, sO va), (va, sV cy t9)])) (T := (sB cy a181 vb182 16 (0 : Int32) ([] : List Nat))) (by simpa only [List.append_assoc, List.cons_append, List.nil_append] using hM)
    refine h_callV (As := [.ref sa]) (rest := []) hx hb (hml.trans hl.1.symm) hown E hM hS xy_J4_append_15ec4 kw_581 (c_appS (Or.inr ⟨List.mem_append_right _ (List.mem_append_right _ (List.mem_of_getElem? (i := 0) rfl)), List.mem_append_right _ (List.mem_append_right _ (List.mem_of_getElem? (i := 1) rfl))⟩) c183 (show ([] : List Nat).length ≤ 16 by decide) (show 16 ≤ 2056 by decide)) (ht_m List.mem_cons_self) gC_J4.1 rfl rfl (Nat.le_of_ble_eq_true rfl) ⟨(Nat.le_of_ble_eq_true rfl), (Nat.le_of_ble_eq_true rfl)⟩ ⟨(show _ ≤ 106 by omega), (show _ ≤ 148189 by omega)⟩ dX8_line_316 (fun rv H locs hZ hS => ?_)
    obtain ⟨vb184, w185, rfl, he186, hM⟩ := hZ
    rw [← hs187] at hM he186
    replace hM := hW.left (X := (FX ++ [(sa, sO va), (va, sV cy t9)])) hM
    replace hM : hW D cy ad b μ (lws cy ad la ν) (FX ++ [(sa, sO va), (va, sV cy t9)] ++ sB cy a181 vb184 w185 (0 : Int32) s187) H := by simpa only [List.append_assoc, List.cons_append, List.nil_append] using hM
    refine va_ldcS hx hb hown (E.2.2.2.2.2.2.2.2.2.2.2.1 1 (by decide)) dX8_line_319 ?_
    obtain ⟨c188, h⟩ := gchk_e h
    obtain ⟨s192, hs192, h⟩ := gnm h
    replace hM := hW.right (X := (FX ++ [(sa, sO va), (va, sV cy t9)])) (T := (sB cy a181 vb184 w185 (0 : Int32) s187)) (by simpa only [List.append_assoc, List.cons_append, List.nil_append] using hM)
    refine h_callV (As := [.ref (ad (470 + 1))]) (rest := []) hx hb (hml.trans hl.1.symm) hown E hM hS xy_J4_append_15ec4 kw_581 (c_appS (sSrc_k (by decide : 1 < 9)) c188 he186.1 he186.2) (ht_m List.mem_cons_self) gC_J4.1 rfl rfl (Nat.le_of_ble_eq_true rfl) ⟨(Nat.le_of_ble_eq_true rfl), (Nat.le_of_ble_eq_true rfl)⟩ ⟨(show _ ≤ 106 by omega), (show _ ≤ 148189 by omega)⟩ dX8_line_321 (fun rv H locs hZ hS => ?_)
    obtain ⟨vb189, w190, rfl, he191, hM⟩ := hZ
    rw [← hs192] at hM he191
    replace hM := hW.left (X := (FX ++ [(sa, sO va), (va, sV cy t9)])) hM
    replace hM : hW D cy ad b μ (lws cy ad la ν) (FX ++ [(sa, sO va), (va, sV cy t9)] ++ sB cy a181 vb189 w190 (0 : Int32) s192) H := by simpa only [List.append_assoc, List.cons_append, List.nil_append] using hM
    replace hM := hW.right (X := (FX ++ [(sa, sO va), (va, sV cy t9)])) (T := (sB cy a181 vb189 w190 (0 : Int32) s192)) (by simpa only [List.append_assoc, List.cons_append, List.nil_append] using hM)
    refine h_callV (As := []) (rest := []) hx hb (hml.trans hl.1.symm) hown E hM hS xy_J4_toString_0e30d kw_725 (c_toS he191.1 he191.2) (ht_m List.mem_cons_self) gC_J4.1 rfl rfl (Nat.le_of_ble_eq_true rfl) ⟨(Nat.le_of_ble_eq_true rfl), (Nat.le_of_ble_eq_true rfl)⟩ ⟨(show _ ≤ 106 by omega), (show _ ≤ 148189 by omega)⟩ dX8_line_324 (fun rv H locs hZ hS => ?_)
    obtain ⟨a194, va195, rfl, hM⟩ := hZ
    replace hM := hW.left (X := (FX ++ [(sa, sO va), (va, sV cy t9)])) hM
    replace hM := hW.cutM (A := (FX ++ [(sa, sO va), (va, sV cy t9)])) hM
    replace hM : hW D cy ad b μ (lws cy ad la ν) (FX ++ [(sa, sO va), (va, sV cy t9), (a194, sO va195), (va195, sV cy s192)]) H := by simpa only [List.append_assoc, List.cons_append, List.nil_append] using hM
    obtain rfl := Option.some.inj h
    replace hM := hW.cutM (A := (FX)) (B := [(sa, sO va), (va, sV cy t9)]) (C := [(a194, sO va195), (va195, sV cy s192)]) (by simpa only [List.append_assoc, List.cons_append, List.nil_append] using hM)
    replace hM : hW D cy ad b μ (lws cy ad la ν) (FX ++ [(a194, sO va195), (va195, sV cy s192)]) H := (by simpa only [List.append_assoc, List.cons_append, List.nil_append] using hM)
    exact h_aret hx hb hr (Or.inl ⟨_, rfl⟩) hlocks (by omega) (by omega) ⟨_, _, _, rfl, hs, hM, hoo⟩ hS dX8_line_327
  · replace h := gif_f c180 h
    refine lv_iconst (v := (4 : Int32)) hx hb dX8_line_158 (by decide) ?_
    refine l_newI hx hb E hM hS (show _ ≤ 106 by omega) (show _ ≤ 148189 by omega) dX8_line_159 (fun a196 H hM hS => ?_)
    replace hM : hW D cy ad b μ (lws cy ad la ν) (FX ++ [(sa, sO va), (va, sV cy t9), (a196, .inl (cy 0, 4, .inl (fun _ => 0)))]) H := by simpa only [List.append_assoc, List.cons_append, List.nil_append] using hM
    refine lv_dup hx hb dX8_line_161 rfl ?_
    refine lv_iconst (v := (0 : Int32)) hx hb dX8_line_162 (by decide) ?_
    refine lv_iload_n hx hb dX8_line_163 rfl (lv_at hl 2 rfl) ?_
    refine lv_iload hx hb dX8_line_164 (lv_at hl 4 rfl) ?_
    refine lv_ishr hx hb dX8_line_166 ?_
    refine lv_sipush (v := (4000 : Int32)) hx hb dX8_line_167 (by decide) ?_
    obtain ⟨q197, hq197, h⟩ := gbind_e h
    refine h_callSCN (As := [.int (p2 >>> ((1 : Int32) &&& 31)), .int (4000 : Int32)]) (rest := [.int (0 : Int32), .ref a196, .ref a196]) hx hb (hml.trans hl.1.symm) hown E hM hS hy_L_mod (E.2.1.2.2.1 _ (List.mem_of_getElem? (i := 1) rfl)) (c_L_mod hq197) rfl rfl (Nat.le_of_ble_eq_true rfl) ⟨(Nat.le_of_ble_eq_true rfl), (Nat.le_of_ble_eq_true rfl)⟩ ⟨(show _ ≤ 106 by omega), (show _ ≤ 148189 by omega)⟩ dX8_line_170 (fun H locs hM hS => ?_)
    refine h_iast (j := FX.length + 2) hx hb E hM hS (x_get rfl) (⟨by decide, by decide⟩ : gIn (0 : Int32) 4) dX8_line_173 (fun H locs hM hS => ?_)
    rw [x_set] at hM
    replace hM : hW D cy ad b μ (lws cy ad la ν) (FX ++ [(sa, sO va), (va, sV cy t9), (a196, .inl (cy 0, 4, .inl (upd (fun _ => 0) 0 q197)))]) H := hM
    refine lv_dup hx hb dX8_line_174 rfl ?_
    refine lv_iconst (v := (1 : Int32)) hx hb dX8_line_175 (by decide) ?_
    refine lv_iload_n hx hb dX8_line_176 rfl (lv_at hl 2 rfl) ?_
    refine lv_iconst (v := (3 : Int32)) hx hb dX8_line_177 (by decide) ?_
    refine lv_iload hx hb dX8_line_178 (lv_at hl 4 rfl) ?_
    refine lv_iadd hx hb dX8_line_180 ?_
    refine lv_ishr hx hb dX8_line_181 ?_
    refine lv_sipush (v := (4000 : Int32)) hx hb dX8_line_182 (by decide) ?_
    obtain ⟨q198, hq198, h⟩ := gbind_e h
    refine h_callSCN (As := [.int (p2 >>> (((3 : Int32) + (1 : Int32)) &&& 31)), .int (4000 : Int32)]) (rest := [.int (1 : Int32), .ref a196, .ref a196]) hx hb (hml.trans hl.1.symm) hown E hM hS hy_L_mod (E.2.1.2.2.1 _ (List.mem_of_getElem? (i := 1) rfl)) (c_L_mod hq198) rfl rfl (Nat.le_of_ble_eq_true rfl) ⟨(Nat.le_of_ble_eq_true rfl), (Nat.le_of_ble_eq_true rfl)⟩ ⟨(show _ ≤ 106 by omega), (show _ ≤ 148189 by omega)⟩ dX8_line_185 (fun H locs hM hS => ?_)
    refine h_iast (j := FX.length + 2) hx hb E hM hS (x_get rfl) (⟨by decide, by decide⟩ : gIn (1 : Int32) 4) dX8_line_188 (fun H locs hM hS => ?_)
    rw [x_set] at hM
    replace hM : hW D cy ad b μ (lws cy ad la ν) (FX ++ [(sa, sO va), (va, sV cy t9), (a196, .inl (cy 0, 4, .inl (upd (upd (fun _ => 0) 0 q197) 1 q198)))]) H := hM
    refine lv_dup hx hb dX8_line_189 rfl ?_
    refine lv_iconst (v := (2 : Int32)) hx hb dX8_line_190 (by decide) ?_
    refine lv_iconst (v := (1 : Int32)) hx hb dX8_line_191 (by decide) ?_
    refine lv_iload_n hx hb dX8_line_192 rfl (lv_at hl 2 rfl) ?_
    refine lv_bipush (v := (11 : Int32)) hx hb dX8_line_193 (by decide) ?_
    refine lv_iload hx hb dX8_line_195 (lv_at hl 4 rfl) ?_
    refine lv_iadd hx hb dX8_line_197 ?_
    refine lv_ishr hx hb dX8_line_198 ?_
    refine lv_bipush (v := (90 : Int32)) hx hb dX8_line_199 (by decide) ?_
    obtain ⟨q199, hq199, h⟩ := gbind_e h
    refine h_callSCN (As := [.int (p2 >>> (((11 : Int32) + (1 : Int32)) &&& 31)), .int (90 : Int32)]) (rest := [.int (1 : Int32), .int (2 : Int32), .ref a196, .ref a196]) hx hb (hml.trans hl.1.symm) hown E hM hS hy_L_mod (E.2.1.2.2.1 _ (List.mem_of_getElem? (i := 1) rfl)) (c_L_mod hq199) rfl rfl (Nat.le_of_ble_eq_true rfl) ⟨(Nat.le_of_ble_eq_true rfl), (Nat.le_of_ble_eq_true rfl)⟩ ⟨(show _ ≤ 106 by omega), (show _ ≤ 148189 by omega)⟩ dX8_line_201 (fun H locs hM hS => ?_)
    refine lv_iadd hx hb dX8_line_204 ?_
    refine h_iast (j := FX.length + 2) hx hb E hM hS (x_get rfl) (⟨by decide, by decide⟩ : gIn (2 : Int32) 4) dX8_line_205 (fun H locs hM hS => ?_)
    rw [x_set] at hM
    replace hM : hW D cy ad b μ (lws cy ad la ν) (FX ++ [(sa, sO va), (va, sV cy t9), (a196, .inl (cy 0, 4, .inl (upd (upd (upd (fun _ => 0) 0 q197) 1 q198) 2 ((1 : Int32) + q199))))]) H := hM
    refine lv_dup hx hb dX8_line_206 rfl ?_
    refine lv_iconst (v := (3 : Int32)) hx hb dX8_line_207 (by decide) ?_
    refine lv_iconst (v := (1 : Int32)) hx hb dX8_line_208 (by decide) ?_
    refine lv_iload_n hx hb dX8_line_209 rfl (lv_at hl 2 rfl) ?_
    refine lv_bipush (v := (15 : Int32)) hx hb dX8_line_210 (by decide) ?_
    refine lv_iload hx hb dX8_line_212 (lv_at hl 4 rfl) ?_
    refine lv_iadd hx hb dX8_line_214 ?_
    refine lv_ishr hx hb dX8_line_215 ?_
    refine lv_bipush (v := (90 : Int32)) hx hb dX8_line_216 (by decide) ?_
    obtain ⟨q200, hq200, h⟩ := gbind_e h
    refine h_callSCN (As := [.int (p2 >>> (((15 : Int32) + (1 : Int32)) &&& 31)), .int (90 : Int32)]) (rest := [.int (1 : Int32), .int (3 : Int32), .ref a196, .ref a196]) hx hb (hml.trans hl.1.symm) hown E hM hS hy_L_mod (E.2.1.2.2.1 _ (List.mem_of_getElem? (i := 1) rfl)) (c_L_mod hq200) rfl rfl (Nat.le_of_ble_eq_true rfl) ⟨(Nat.le_of_ble_eq_true rfl), (Nat.le_of_ble_eq_true rfl)⟩ ⟨(show _ ≤ 106 by omega), (show _ ≤ 148189 by omega)⟩ dX8_line_218 (fun H locs hM hS => ?_)
    refine lv_iadd hx hb dX8_line_221 ?_
    refine h_iast (j := FX.length + 2) hx hb E hM hS (x_get rfl) (⟨by decide, by decide⟩ : gIn (3 : Int32) 4) dX8_line_222 (fun H locs hM hS => ?_)
    rw [x_set] at hM
    replace hM : hW D cy ad b μ (lws cy ad la ν) (FX ++ [(sa, sO va), (va, sV cy t9), (a196, .inl (cy 0, 4, .inl (upd (upd (upd (upd (fun _ => 0) 0 q197) 1 q198) 2 ((1 : Int32) + q199)) 3 ((1 : Int32) + q200))))]) H := hM
    refine lv_astore (lv' := [(7, .ref a196), (0, .ref (la 0 0)), (1, .int p1), (2, .int p2), (5, .ref sa), (6, .int (1 : Int32))]) hx hb dX8_line_223 hl (by decide) rfl (fun ls hl => ?_)
    refine lv_aload_n hx hb dX8_line_225 rfl (lv_at hl 1 rfl) ?_
    refine h_get hx hb hown E hM (hp_m hY.n0) gC_X8 8 (by decide) (v := .ref (la 6 0)) rfl kw_1032 dX8_line_226 ?_
    refine lv_iload_n hx hb dX8_line_229 rfl (lv_at hl 2 rfl) ?_
    obtain ⟨c201, h⟩ := gchk_e h
    replace hM := hW.low (T := (FX ++ [(sa, sO va), (va, sV cy t9), (a196, .inl (cy 0, 4, .inl (upd (upd (upd (upd (fun _ => 0) 0 q197) 1 q198) 2 ((1 : Int32) + q199)) 3 ((1 : Int32) + q200))))])) hM
    refine h_callV (As := [.int p1]) (rest := []) hx hb (hml.trans hl.1.symm) hown E hM hS xy_Jx4a65c_get_915e3 kw_870 (cl_get0 (hY.app _) c201) (hp_m ((hY.app _).c6 (by have := c201.2; omega)).1) gC_Jx4a65c.1 rfl rfl (Nat.le_of_ble_eq_true rfl) ⟨(Nat.le_of_ble_eq_true rfl), (Nat.le_of_ble_eq_true rfl)⟩ ⟨(show _ ≤ 106 by omega), (show _ ≤ 148189 by omega)⟩ dX8_line_230 (fun rv H locs hZ hS => ?_)
    obtain ⟨rfl, hM⟩ := hZ
    replace hM := hW.up (T := (FX ++ [(sa, sO va), (va, sV cy t9), (a196, .inl (cy 0, 4, .inl (upd (upd (upd (upd (fun _ => 0) 0 q197) 1 q198) 2 ((1 : Int32) + q199)) 3 ((1 : Int32) + q200))))])) hM
    refine h_castY hx hb hown E hM (hp_m (hY.c40 c201.2)) gC_Jx4a65c kw_511 dX8_line_233 ?_
    refine lv_aload hx hb dX8_line_236 (lv_at hl 0 rfl) ?_
    obtain ⟨c202, h⟩ := gchk_e h
    have hL9 := hs.2.2.1.1
    have hk1 := c201.2
    replace hM : hW D cy ad b μ (lws cy ad la ν) ((a196, .inl (cy 0, 4, .inl (upd (upd (upd (upd (fun _ => 0) 0 q197) 1 q198) 2 ((1 : Int32) + q199)) 3 ((1 : Int32) + q200)))) :: (FX ++ [(sa, sO va), (va, sV cy t9)])) H := hW.perm (List.Perm.append_left _ (by exact (List.perm_append_comm (l₁ := (FX ++ [(sa, sO va), (va, sV cy t9)])) (l₂ := [(a196, .inl (cy 0, 4, .inl (upd (upd (upd (upd (fun _ => 0) 0 q197) 1 q198) 2 ((1 : Int32) + q199)) 3 ((1 : Int32) + q200))))])))) (by simpa only [List.append_assoc, List.cons_append, List.nil_append] using hM)
    refine lw_add1 hx hb (hml.trans hl.1.symm) hown E hs hk1 c202.1 c202.2 hM hS kw_819 rfl (Nat.le_of_ble_eq_true rfl) ⟨(Nat.le_of_ble_eq_true rfl), (Nat.le_of_ble_eq_true rfl)⟩ ⟨(show _ ≤ 106 by omega), (show _ ≤ 148189 by omega)⟩ dX8_line_238 (fun H locs hM hS => ?_)
    obtain ⟨ν203, hν203, h⟩ := gupd h
    rw [← hν203] at hM
    replace hs : lS ν203 := by rw [hν203]; exact (lgrow_S hs hk1 c202.2)
    obtain ⟨la204, hla204⟩ : ∃ x, x = lset la (100 + p1.toNatClampNeg) (lSz ν p1.toNatClampNeg) a196 := ⟨_, rfl⟩
    rw [← hla204] at hM
    have ho1 : la204 0 0 = la 0 0 := by rw [hla204]; repeat rw [lset_ne2 (by omega)]
    replace hoo := ho1.trans hoo
    rw [← ho1] at hl
    have hY := lY0_self (cy := cy) (ad := ad) (la := la204) hs
    have hrow := l_rowm0 (k := p1.toNatClampNeg) hY (by rw [hla204, lset_eq]) hν203 hk1 c202.2 hL9
    refine lv_pop hx hb dX8_line_241 rfl ?_
    refine lv_aload hx hb dX8_line_242 (lv_at hl 0 rfl) ?_
    refine lv_astore (lv' := [(8, .ref a196), (7, .ref a196), (0, .ref (la204 0 0)), (1, .int p1), (2, .int p2), (5, .ref sa), (6, .int (1 : Int32))]) hx hb dX8_line_244 hl (by decide) rfl (fun ls hl => ?_)
    refine lv_aload hx hb dX8_line_246 (lv_at hl 0 rfl) ?_
    refine h_alen hx hb E hM 0 (ty := .int) (hp_m hrow) rfl (v := (4 : Int32)) rfl dX8_line_248 ?_
    refine lv_istore (lv' := [(9, .int (4 : Int32)), (8, .ref a196), (7, .ref a196), (0, .ref (la204 0 0)), (1, .int p1), (2, .int p2), (5, .ref sa), (6, .int (1 : Int32))]) hx hb dX8_line_249 hl (by decide) rfl (fun ls hl => ?_)
    refine lv_iconst (v := (0 : Int32)) hx hb dX8_line_251 (by decide) ?_
    refine lv_istore (lv' := [(10, .int (0 : Int32)), (9, .int (4 : Int32)), (8, .ref a196), (7, .ref a196), (0, .ref (la204 0 0)), (1, .int p1), (2, .int p2), (5, .ref sa), (6, .int (1 : Int32))]) hx hb dX8_line_252 hl (by decide) rfl (fun ls hl => ?_)
    refine lv_iload hx hb dX8_line_254 (lv_at hl 0 rfl) ?_
    refine lv_iload hx hb dX8_line_256 (lv_at hl 1 rfl) ?_
    refine lv_icmp_ge (tgt := 301) hx hb dX8_line_258 (by decide) (fun c205 => ?_) (fun c205 => ?_)
    · exact absurd c205 (by decide)
    · refine lv_aload hx hb dX8_line_261 (lv_at hl 2 rfl) ?_
      refine lv_iload hx hb dX8_line_263 (lv_at hl 0 rfl) ?_
      refine l_iald hx hb E hM (hp_m hrow) (⟨by decide, by decide⟩ : gIn (0 : Int32) 4) (v := (gi ν203 (100 + 8 * p1.toNatClampNeg + (lSz ν p1.toNatClampNeg)) 0)) (congrArg (ν203.1 (100 + 8 * p1.toNatClampNeg + (lSz ν p1.toNatClampNeg))) (by decide : (0 : Int32).toNatClampNeg = 0)) dX8_line_265 ?_
      obtain ⟨y207, hy207, h⟩ := gnm h
      rw [← hy207]
      refine lv_istore (lv' := [(11, .int y207), (10, .int (0 : Int32)), (9, .int (4 : Int32)), (8, .ref a196), (7, .ref a196), (0, .ref (la204 0 0)), (1, .int p1), (2, .int p2), (5, .ref sa), (6, .int (1 : Int32))]) hx hb dX8_line_266 hl (by decide) rfl (fun ls hl => ?_)
      refine h_new hx hb hown E hM hS gC_J4 kw_549 kw_550 kw_63 (fs := [.null, .int (0 : Int32), .int (0 : Int32), .int (0 : Int32)]) (by decide +kernel) (show _ ≤ 106 by omega) (show _ ≤ 148189 by omega) dX8_line_268 (fun a208 H hM hS => ?_)
      replace hM : hW D cy ad b μ (lws cy ad la204 ν203) (FX ++ [(sa, sO va), (va, sV cy t9), (a208, .inr (10, [.null, .int (0 : Int32), .int (0 : Int32), .int (0 : Int32)]))]) H := by simpa only [List.append_assoc, List.cons_append, List.nil_append] using hM
      refine lv_dup hx hb dX8_line_271 rfl ?_
      replace hM := hW.right (X := (FX ++ [(sa, sO va), (va, sV cy t9)])) (T := [(a208, .inr (10, [.null, .int (0 : Int32), .int (0 : Int32), .int (0 : Int32)]))]) (by simpa only [List.append_assoc, List.cons_append, List.nil_append] using hM)
      refine h_callI (As := []) (rest := [.ref a208]) hx hb (hml.trans hl.1.symm) hown E hM hS xi_J4_init_da8c8 kw_551 c_binit rfl rfl (Nat.le_of_ble_eq_true rfl) ⟨(Nat.le_of_ble_eq_true rfl), (Nat.le_of_ble_eq_true rfl)⟩ ⟨(show _ ≤ 106 by omega), (show _ ≤ 148189 by omega)⟩ dX8_line_272 (fun rv H locs hZ hS => ?_)
      obtain ⟨vb209, rfl, hM⟩ := hZ
      replace hM := hW.left (X := (FX ++ [(sa, sO va), (va, sV cy t9)])) (T := (sB cy a208 vb209 16 (0 : Int32) ([] : List Nat))) hM
      replace hM : hW D cy ad b μ (lws cy ad la204 ν203) (FX ++ [(sa, sO va), (va, sV cy t9)] ++ sB cy a208 vb209 16 (0 : Int32) ([] : List Nat)) H := by simpa only [List.append_assoc, List.cons_append, List.nil_append] using hM
      refine lv_aload hx hb dX8_line_275 (lv_at hl 8 rfl) ?_
      obtain ⟨c210, h⟩ := gchk_e h
      obtain ⟨s214, hs214, h⟩ := gnm h
      replace hM := hW.right (X := (FX ++ [(sa, sO va), (va, sV cy t9)])) (T := (sB cy a208 vb209 16 (0 : Int32) ([] : List Nat))) (by simpa only [List.append_assoc, List.cons_append, List.nil_append] using hM)
      refine h_callV (As := [.ref sa]) (rest := []) hx hb (hml.trans hl.1.symm) hown E hM hS xy_J4_append_15ec4 kw_581 (c_appS (Or.inr ⟨List.mem_append_right _ (List.mem_append_right _ (List.mem_of_getElem? (i := 0) rfl)), List.mem_append_right _ (List.mem_append_right _ (List.mem_of_getElem? (i := 1) rfl))⟩) c210 (show ([] : List Nat).length ≤ 16 by decide) (show 16 ≤ 2056 by decide)) (ht_m List.mem_cons_self) gC_J4.1 rfl rfl (Nat.le_of_ble_eq_true rfl) ⟨(Nat.le_of_ble_eq_true rfl), (Nat.le_of_ble_eq_true rfl)⟩ ⟨(show _ ≤ 106 by omega), (show _ ≤ 148189 by omega)⟩ dX8_line_277 (fun rv H locs hZ hS => ?_)
      obtain ⟨vb211, w212, rfl, he213, hM⟩ := hZ
      rw [← hs214] at hM he213
      replace hM := hW.left (X := (FX ++ [(sa, sO va), (va, sV cy t9)])) hM
      replace hM : hW D cy ad b μ (lws cy ad la204 ν203) (FX ++ [(sa, sO va), (va, sV cy t9)] ++ sB cy a208 vb211 w212 (0 : Int32) s214) H := by simpa only [List.append_assoc, List.cons_append, List.nil_append] using hM
      refine va_ldcS hx hb hown (E.2.2.2.2.2.2.2.2.2.2.2.1 3 (by decide)) dX8_line_280 ?_
      obtain ⟨c215, h⟩ := gchk_e h
      obtain ⟨s219, hs219, h⟩ := gnm h
      replace hM := hW.right (X := (FX ++ [(sa, sO va), (va, sV cy t9)])) (T := (sB cy a208 vb211 w212 (0 : Int32) s214)) (by simpa only [List.append_assoc, List.cons_append, List.nil_append] using hM)
      refine h_callV (As := [.ref (ad (470 + 3))]) (rest := []) hx hb (hml.trans hl.1.symm) hown E hM hS xy_J4_append_15ec4 kw_581 (c_appS (sSrc_k (by decide : 3 < 9)) c215 he213.1 he213.2) (ht_m List.mem_cons_self) gC_J4.1 rfl rfl (Nat.le_of_ble_eq_true rfl) ⟨(Nat.le_of_ble_eq_true rfl), (Nat.le_of_ble_eq_true rfl)⟩ ⟨(show _ ≤ 106 by omega), (show _ ≤ 148189 by omega)⟩ dX8_line_282 (fun rv H locs hZ hS => ?_)
      obtain ⟨vb216, w217, rfl, he218, hM⟩ := hZ
      rw [← hs219] at hM he218
      replace hM := hW.left (X := (FX ++ [(sa, sO va), (va, sV cy t9)])) hM
      replace hM : hW D cy ad b μ (lws cy ad la204 ν203) (FX ++ [(sa, sO va), (va, sV cy t9)] ++ sB cy a208 vb216 w217 (0 : Int32) s219) H := by simpa only [List.append_assoc, List.cons_append, List.nil_append] using hM
      refine lv_iload hx hb dX8_line_285 (lv_at hl 0 rfl) ?_
      obtain ⟨c220, h⟩ := gchk_e h
      obtain ⟨s224, hs224, h⟩ := gnm h
      replace hM := hW.right (X := (FX ++ [(sa, sO va), (va, sV cy t9)])) (T := (sB cy a208 vb216 w217 (0 : Int32) s219)) (by simpa only [List.append_assoc, List.cons_append, List.nil_append] using hM)
      refine h_callV (As := [.int y207]) (rest := []) hx hb (hml.trans hl.1.symm) hown E hM hS xy_J4_append_bf812 kw_699 (by have h9 := c_appI (l := l) (D := D) (cy := cy) (ad := ad) (b := b) (μ := μ) (P := ((lws cy ad la204 ν203) ++ (FX ++ [(sa, sO va), (va, sV cy t9)]))) (ba := a208) (vb := vb216) (w := w217) (ml := 0) (U := s219) c220.1.2 c220.2 he218.1 he218.2; rwa [← gIn_e c220.1] at h9) (ht_m List.mem_cons_self) gC_J4.1 rfl rfl (Nat.le_of_ble_eq_true rfl) ⟨(Nat.le_of_ble_eq_true rfl), (Nat.le_of_ble_eq_true rfl)⟩ ⟨(show _ ≤ 106 by omega), (show _ ≤ 148189 by omega)⟩ dX8_line_287 (fun rv H locs hZ hS => ?_)
      obtain ⟨vb221, w222, rfl, he223, hM⟩ := hZ
      rw [← hs224] at hM he223
      replace hM := hW.left (X := (FX ++ [(sa, sO va), (va, sV cy t9)])) hM
      replace hM : hW D cy ad b μ (lws cy ad la204 ν203) (FX ++ [(sa, sO va), (va, sV cy t9)] ++ sB cy a208 vb221 w222 (0 : Int32) s224) H := by simpa only [List.append_assoc, List.cons_append, List.nil_append] using hM
      replace hM := hW.right (X := (FX ++ [(sa, sO va), (va, sV cy t9)])) (T := (sB cy a208 vb221 w222 (0 : Int32) s224)) (by simpa only [List.append_assoc, List.cons_append, List.nil_append] using hM)
      refine h_callV (As := []) (rest := []) hx hb (hml.trans hl.1.symm) hown E hM hS xy_J4_toString_0e30d kw_725 (c_toS he223.1 he223.2) (ht_m List.mem_cons_self) gC_J4.1 rfl rfl (Nat.le_of_ble_eq_true rfl) ⟨(Nat.le_of_ble_eq_true rfl), (Nat.le_of_ble_eq_true rfl)⟩ ⟨(show _ ≤ 106 by omega), (show _ ≤ 148189 by omega)⟩ dX8_line_290 (fun rv H locs hZ hS => ?_)
      obtain ⟨a226, va227, rfl, hM⟩ := hZ
      replace hM := hW.left (X := (FX ++ [(sa, sO va), (va, sV cy t9)])) hM
      replace hM := hW.cutM (A := (FX ++ [(sa, sO va), (va, sV cy t9)])) hM
      replace hM : hW D cy ad b μ (lws cy ad la204 ν203) (FX ++ [(sa, sO va), (va, sV cy t9), (a226, sO va227), (va227, sV cy s224)]) H := by simpa only [List.append_assoc, List.cons_append, List.nil_append] using hM
      refine lv_astore (lv' := [(5, .ref a226), (11, .int y207), (10, .int (0 : Int32)), (9, .int (4 : Int32)), (8, .ref a196), (7, .ref a196), (0, .ref (la204 0 0)), (1, .int p1), (2, .int p2), (6, .int (1 : Int32))]) hx hb dX8_line_293 hl (by decide) rfl (fun ls hl => ?_)
      refine lv_iinc (v := (1 : Int32)) (lv' := [(10, .int (1 : Int32)), (5, .ref a226), (11, .int y207), (9, .int (4 : Int32)), (8, .ref a196), (7, .ref a196), (0, .ref (la204 0 0)), (1, .int p1), (2, .int p2), (6, .int (1 : Int32))]) hx hb dX8_line_295 hl (k := 2) rfl (by decide) (by decide) rfl (fun ls hl => ?_)
      refine lv_goto (tgt := 254) hx hb dX8_line_298 (by decide) ?_
      refine lv_iload hx hb dX8_line_254 (lv_at hl 0 rfl) ?_
      refine lv_iload hx hb dX8_line_256 (lv_at hl 3 rfl) ?_
      refine lv_icmp_ge (tgt := 301) hx hb dX8_line_258 (by decide) (fun c228 => ?_) (fun c228 => ?_)
      · exact absurd c228 (by decide)
      · refine lv_aload hx hb dX8_line_261 (lv_at hl 4 rfl) ?_
        refine lv_iload hx hb dX8_line_263 (lv_at hl 0 rfl) ?_
        refine l_iald hx hb E hM (hp_m hrow) (⟨by decide, by decide⟩ : gIn (1 : Int32) 4) (v := (gi ν203 (100 + 8 * p1.toNatClampNeg + (lSz ν p1.toNatClampNeg)) 1)) (congrArg (ν203.1 (100 + 8 * p1.toNatClampNeg + (lSz ν p1.toNatClampNeg))) (by decide : (1 : Int32).toNatClampNeg = 1)) dX8_line_265 ?_
        obtain ⟨y230, hy230, h⟩ := gnm h
        rw [← hy230]
        refine lv_istore (lv' := [(11, .int y230), (10, .int (1 : Int32)), (5, .ref a226), (9, .int (4 : Int32)), (8, .ref a196), (7, .ref a196), (0, .ref (la204 0 0)), (1, .int p1), (2, .int p2), (6, .int (1 : Int32))]) hx hb dX8_line_266 hl (by decide) rfl (fun ls hl => ?_)
        refine h_new hx hb hown E hM hS gC_J4 kw_549 kw_550 kw_63 (fs := [.null, .int (0 : Int32), .int (0 : Int32), .int (0 : Int32)]) (by decide +kernel) (show _ ≤ 106 by omega) (show _ ≤ 148189 by omega) dX8_line_268 (fun a231 H hM hS => ?_)
        replace hM : hW D cy ad b μ (lws cy ad la204 ν203) (FX ++ [(sa, sO va), (va, sV cy t9), (a226, sO va227), (va227, sV cy s224), (a231, .inr (10, [.null, .int (0 : Int32), .int (0 : Int32), .int (0 : Int32)]))]) H := by simpa only [List.append_assoc, List.cons_append, List.nil_append] using hM
        refine lv_dup hx hb dX8_line_271 rfl ?_
        replace hM := hW.right (X := (FX ++ [(sa, sO va), (va, sV cy t9), (a226, sO va227), (va227, sV cy s224)])) (T := [(a231, .inr (10, [.null, .int (0 : Int32), .int (0 : Int32), .int (0 : Int32)]))]) (by simpa only [List.append_assoc, List.cons_append, List.nil_append] using hM)
        refine h_callI (As := []) (rest := [.ref a231]) hx hb (hml.trans hl.1.symm) hown E hM hS xi_J4_init_da8c8 kw_551 c_binit rfl rfl (Nat.le_of_ble_eq_true rfl) ⟨(Nat.le_of_ble_eq_true rfl), (Nat.le_of_ble_eq_true rfl)⟩ ⟨(show _ ≤ 106 by omega), (show _ ≤ 148189 by omega)⟩ dX8_line_272 (fun rv H locs hZ hS => ?_)
        obtain ⟨vb232, rfl, hM⟩ := hZ
        replace hM := hW.left (X := (FX ++ [(sa, sO va), (va, sV cy t9), (a226, sO va227), (va227, sV cy s224)])) (T := (sB cy a231 vb232 16 (0 : Int32) ([] : List Nat))) hM
        replace hM : hW D cy ad b μ (lws cy ad la204 ν203) (FX ++ [(sa, sO va), (va, sV cy t9), (a226, sO va227), (va227, sV cy s224)] ++ sB cy a231 vb232 16 (0 : Int32) ([] : List Nat)) H := by simpa only [List.append_assoc, List.cons_append, List.nil_append] using hM
        refine lv_aload hx hb dX8_line_275 (lv_at hl 2 rfl) ?_
        obtain ⟨c233, h⟩ := gchk_e h
        obtain ⟨s237, hs237, h⟩ := gnm h
        replace hM := hW.right (X := (FX ++ [(sa, sO va), (va, sV cy t9), (a226, sO va227), (va227, sV cy s224)])) (T := (sB cy a231 vb232 16 (0 : Int32) ([] : List Nat))) (by simpa only [List.append_assoc, List.cons_append, List.nil_append] using hM)
        refine h_callV (As := [.ref a226]) (rest := []) hx hb (hml.trans hl.1.symm) hown E hM hS xy_J4_append_15ec4 kw_581 (c_appS (Or.inr ⟨List.mem_append_right _ (List.mem_append_right _ (List.mem_of_getElem? (i := 2) rfl)), List.mem_append_right _ (List.mem_append_right _ (List.mem_of_getElem? (i := 3) rfl))⟩) c233 (show ([] : List Nat).length ≤ 16 by decide) (show 16 ≤ 2056 by decide)) (ht_m List.mem_cons_self) gC_J4.1 rfl rfl (Nat.le_of_ble_eq_true rfl) ⟨(Nat.le_of_ble_eq_true rfl), (Nat.le_of_ble_eq_true rfl)⟩ ⟨(show _ ≤ 106 by omega), (show _ ≤ 148189 by omega)⟩ dX8_line_277 (fun rv H locs hZ hS => ?_)
        obtain ⟨vb234, w235, rfl, he236, hM⟩ := hZ
        rw [← hs237] at hM he236
        replace hM := hW.left (X := (FX ++ [(sa, sO va), (va, sV cy t9), (a226, sO va227), (va227, sV cy s224)])) hM
        replace hM : hW D cy ad b μ (lws cy ad la204 ν203) (FX ++ [(sa, sO va), (va, sV cy t9), (a226, sO va227), (va227, sV cy s224)] ++ sB cy a231 vb234 w235 (0 : Int32) s237) H := by simpa only [List.append_assoc, List.cons_append, List.nil_append] using hM
        refine va_ldcS hx hb hown (E.2.2.2.2.2.2.2.2.2.2.2.1 3 (by decide)) dX8_line_280 ?_
        obtain ⟨c238, h⟩ := gchk_e h
        obtain ⟨s242, hs242, h⟩ := gnm h
        replace hM := hW.right (X := (FX ++ [(sa, sO va), (va, sV cy t9), (a226, sO va227), (va227, sV cy s224)])) (T := (sB cy a231 vb234 w235 (0 : Int32) s237)) (by simpa only [List.append_assoc, List.cons_append, List.nil_append] using hM)
        refine h_callV (As := [.ref (ad (470 + 3))]) (rest := []) hx hb (hml.trans hl.1.symm) hown E hM hS xy_J4_append_15ec4 kw_581 (c_appS (sSrc_k (by decide : 3 < 9)) c238 he236.1 he236.2) (ht_m List.mem_cons_self) gC_J4.1 rfl rfl (Nat.le_of_ble_eq_true rfl) ⟨(Nat.le_of_ble_eq_true rfl), (Nat.le_of_ble_eq_true rfl)⟩ ⟨(show _ ≤ 106 by omega), (show _ ≤ 148189 by omega)⟩ dX8_line_282 (fun rv H locs hZ hS => ?_)
        obtain ⟨vb239, w240, rfl, he241, hM⟩ := hZ
        rw [← hs242] at hM he241
        replace hM := hW.left (X := (FX ++ [(sa, sO va), (va, sV cy t9), (a226, sO va227), (va227, sV cy s224)])) hM
        replace hM : hW D cy ad b μ (lws cy ad la204 ν203) (FX ++ [(sa, sO va), (va, sV cy t9), (a226, sO va227), (va227, sV cy s224)] ++ sB cy a231 vb239 w240 (0 : Int32) s242) H := by simpa only [List.append_assoc, List.cons_append, List.nil_append] using hM
        refine lv_iload hx hb dX8_line_285 (lv_at hl 0 rfl) ?_
        obtain ⟨c243, h⟩ := gchk_e h
        obtain ⟨s247, hs247, h⟩ := gnm h
        replace hM := hW.right (X := (FX ++ [(sa, sO va), (va, sV cy t9), (a226, sO va227), (va227, sV cy s224)])) (T := (sB cy a231 vb239 w240 (0 : Int32) s242)) (by simpa only [List.append_assoc, List.cons_append, List.nil_append] using hM)
        refine h_callV (As := [.int y230]) (rest := []) hx hb (hml.trans hl.1.symm) hown E hM hS xy_J4_append_bf812 kw_699 (by have h9 := c_appI (l := l) (D := D) (cy := cy) (ad := ad) (b := b) (μ := μ) (P := ((lws cy ad la204 ν203) ++ (FX ++ [(sa, sO va), (va, sV cy t9), (a226, sO va227), (va227, sV cy s224)]))) (ba := a231) (vb := vb239) (w := w240) (ml := 0) (U := s242) c243.1.2 c243.2 he241.1 he241.2; rwa [← gIn_e c243.1] at h9) (ht_m List.mem_cons_self) gC_J4.1 rfl rfl (Nat.le_of_ble_eq_true rfl) ⟨(Nat.le_of_ble_eq_true rfl), (Nat.le_of_ble_eq_true rfl)⟩ ⟨(show _ ≤ 106 by omega), (show _ ≤ 148189 by omega)⟩ dX8_line_287 (fun rv H locs hZ hS => ?_)
        obtain ⟨vb244, w245, rfl, he246, hM⟩ := hZ
        rw [← hs247] at hM he246
        replace hM := hW.left (X := (FX ++ [(sa, sO va), (va, sV cy t9), (a226, sO va227), (va227, sV cy s224)])) hM
        replace hM : hW D cy ad b μ (lws cy ad la204 ν203) (FX ++ [(sa, sO va), (va, sV cy t9), (a226, sO va227), (va227, sV cy s224)] ++ sB cy a231 vb244 w245 (0 : Int32) s247) H := by simpa only [List.append_assoc, List.cons_append, List.nil_append] using hM
        replace hM := hW.right (X := (FX ++ [(sa, sO va), (va, sV cy t9), (a226, sO va227), (va227, sV cy s224)])) (T := (sB cy a231 vb244 w245 (0 : Int32) s247)) (by simpa only [List.append_assoc, List.cons_append, List.nil_append] using hM)
        refine h_callV (As := []) (rest := []) hx hb (hml.trans hl.1.symm) hown E hM hS xy_J4_toString_0e30d kw_725 (c_toS he246.1 he246.2) (ht_m List.mem_cons_self) gC_J4.1 rfl rfl (Nat.le_of_ble_eq_true rfl) ⟨(Nat.le_of_ble_eq_true rfl), (Nat.le_of_ble_eq_true rfl)⟩ ⟨(show _ ≤ 106 by omega), (show _ ≤ 148189 by omega)⟩ dX8_line_290 (fun rv H locs hZ hS => ?_)
        obtain ⟨a249, va250, rfl, hM⟩ := hZ
        replace hM := hW.left (X := (FX ++ [(sa, sO va), (va, sV cy t9), (a226, sO va227), (va227, sV cy s224)])) hM
        replace hM := hW.cutM (A := (FX ++ [(sa, sO va), (va, sV cy t9), (a226, sO va227), (va227, sV cy s224)])) hM
        replace hM : hW D cy ad b μ (lws cy ad la204 ν203) (FX ++ [(sa, sO va), (va, sV cy t9), (a226, sO va227), (va227, sV cy s224), (a249, sO va250), (va250, sV cy s247)]) H := by simpa only [List.append_assoc, List.cons_append, List.nil_append] using hM
        refine lv_astore (lv' := [(5, .ref a249), (11, .int y230), (10, .int (1 : Int32)), (9, .int (4 : Int32)), (8, .ref a196), (7, .ref a196), (0, .ref (la204 0 0)), (1, .int p1), (2, .int p2), (6, .int (1 : Int32))]) hx hb dX8_line_293 hl (by decide) rfl (fun ls hl => ?_)
        refine lv_iinc (v := (2 : Int32)) (lv' := [(10, .int (2 : Int32)), (5, .ref a249), (11, .int y230), (9, .int (4 : Int32)), (8, .ref a196), (7, .ref a196), (0, .ref (la204 0 0)), (1, .int p1), (2, .int p2), (6, .int (1 : Int32))]) hx hb dX8_line_295 hl (k := 2) rfl (by decide) (by decide) rfl (fun ls hl => ?_)
        refine lv_goto (tgt := 254) hx hb dX8_line_298 (by decide) ?_
        refine lv_iload hx hb dX8_line_254 (lv_at hl 0 rfl) ?_
        refine lv_iload hx hb dX8_line_256 (lv_at hl 3 rfl) ?_
        refine lv_icmp_ge (tgt := 301) hx hb dX8_line_258 (by decide) (fun c251 => ?_) (fun c251 => ?_)
        · exact absurd c251 (by decide)
        · refine lv_aload hx hb dX8_line_261 (lv_at hl 4 rfl) ?_
          refine lv_iload hx hb dX8_line_263 (lv_at hl 0 rfl) ?_
          refine l_iald hx hb E hM (hp_m hrow) (⟨by decide, by decide⟩ : gIn (2 : Int32) 4) (v := (gi ν203 (100 + 8 * p1.toNatClampNeg + (lSz ν p1.toNatClampNeg)) 2)) (congrArg (ν203.1 (100 + 8 * p1.toNatClampNeg + (lSz ν p1.toNatClampNeg))) (by decide : (2 : Int32).toNatClampNeg = 2)) dX8_line_265 ?_
          obtain ⟨y253, hy253, h⟩ := gnm h
          rw [← hy253]
          refine lv_istore (lv' := [(11, .int y253), (10, .int (2 : Int32)), (5, .ref a249), (9, .int (4 : Int32)), (8, .ref a196), (7, .ref a196), (0, .ref (la204 0 0)), (1, .int p1), (2, .int p2), (6, .int (1 : Int32))]) hx hb dX8_line_266 hl (by decide) rfl (fun ls hl => ?_)
          refine h_new hx hb hown E hM hS gC_J4 kw_549 kw_550 kw_63 (fs := [.null, .int (0 : Int32), .int (0 : Int32), .int (0 : Int32)]) (by decide +kernel) (show _ ≤ 106 by omega) (show _ ≤ 148189 by omega) dX8_line_268 (fun a254 H hM hS => ?_)
          replace hM : hW D cy ad b μ (lws cy ad la204 ν203) (FX ++ [(sa, sO va), (va, sV cy t9), (a226, sO va227), (va227, sV cy s224), (a249, sO va250), (va250, sV cy s247), (a254, .inr (10, [.null, .int (0 : Int32), .int (0 : Int32), .int (0 : Int32)]))]) H := by simpa only [List.append_assoc, List.cons_append, List.nil_append] using hM
          refine lv_dup hx hb dX8_line_271 rfl ?_
          replace hM := hW.right (X := (FX ++ [(sa, sO va), (va, sV cy t9), (a226, sO va227), (va227, sV cy s224), (a249, sO va250), (va250, sV cy s247)])) (T := [(a254, .inr (10, [.null, .int (0 : Int32), .int (0 : Int32), .int (0 : Int32)]))]) (by simpa only [List.append_assoc, List.cons_append, List.nil_append] using hM)
          refine h_callI (As := []) (rest := [.ref a254]) hx hb (hml.trans hl.1.symm) hown E hM hS xi_J4_init_da8c8 kw_551 c_binit rfl rfl (Nat.le_of_ble_eq_true rfl) ⟨(Nat.le_of_ble_eq_true rfl), (Nat.le_of_ble_eq_true rfl)⟩ ⟨(show _ ≤ 106 by omega), (show _ ≤ 148189 by omega)⟩ dX8_line_272 (fun rv H locs hZ hS => ?_)
          obtain ⟨vb255, rfl, hM⟩ := hZ
          replace hM := hW.left (X := (FX ++ [(sa, sO va), (va, sV cy t9), (a226, sO va227), (va227, sV cy s224), (a249, sO va250), (va250, sV cy s247)])) (T := (sB cy a254 vb255 16 (0 : Int32) ([] : List Nat))) hM
          replace hM : hW D cy ad b μ (lws cy ad la204 ν203) (FX ++ [(sa, sO va), (va, sV cy t9), (a226, sO va227), (va227, sV cy s224), (a249, sO va250), (va250, sV cy s247)] ++ sB cy a254 vb255 16 (0 : Int32) ([] : List Nat)) H := by simpa only [List.append_assoc, List.cons_append, List.nil_append] using hM
          refine lv_aload hx hb dX8_line_275 (lv_at hl 2 rfl) ?_
          obtain ⟨c256, h⟩ := gchk_e h
          obtain ⟨s260, hs260, h⟩ := gnm h
          replace hM := hW.right (X := (FX ++ [(sa, sO va), (va, sV cy t9), (a226, sO va227), (va227, sV cy s224), (a249, sO va250), (va250, sV cy s247)])) (T := (sB cy a254 vb255 16 (0 : Int32) ([] : List Nat))) (by simpa only [List.append_assoc, List.cons_append, List.nil_append] using hM)
          refine h_callV (As := [.ref a249]) (rest := []) hx hb (hml.trans hl.1.symm) hown E hM hS xy_J4_append_15ec4 kw_581 (c_appS (Or.inr ⟨List.mem_append_right _ (List.mem_append_right _ (List.mem_of_getElem? (i := 4) rfl)), List.mem_append_right _ (List.mem_append_right _ (List.mem_of_getElem? (i := 5) rfl))⟩) c256 (show ([] : List Nat).length ≤ 16 by decide) (show 16 ≤ 2056 by decide)) (ht_m List.mem_cons_self) gC_J4.1 rfl rfl (Nat.le_of_ble_eq_true rfl) ⟨(Nat.le_of_ble_eq_true rfl), (Nat.le_of_ble_eq_true rfl)⟩ ⟨(show _ ≤ 106 by omega), (show _ ≤ 148189 by omega)⟩ dX8_line_277 (fun rv H locs hZ hS => ?_)
          obtain ⟨vb257, w258, rfl, he259, hM⟩ := hZ
          rw [← hs260] at hM he259
          replace hM := hW.left (X := (FX ++ [(sa, sO va), (va, sV cy t9), (a226, sO va227), (va227, sV cy s224), (a249, sO va250), (va250, sV cy s247)])) hM
          replace hM : hW D cy ad b μ (lws cy ad la204 ν203) (FX ++ [(sa, sO va), (va, sV cy t9), (a226, sO va227), (va227, sV cy s224), (a249, sO va250), (va250, sV cy s247)] ++ sB cy a254 vb257 w258 (0 : Int32) s260) H := by simpa only [List.append_assoc, List.cons_append, List.nil_append] using hM
          refine va_ldcS hx hb hown (E.2.2.2.2.2.2.2.2.2.2.2.1 3 (by decide)) dX8_line_280 ?_
          obtain ⟨c261, h⟩ := gchk_e h
          obtain ⟨s265, hs265, h⟩ := gnm h
          replace hM := hW.right (X := (FX ++ [(sa, sO va), (va, sV cy t9), (a226, sO va227), (va227, sV cy s224), (a249, sO va250), (va250, sV cy s247)])) (T := (sB cy a254 vb257 w258 (0 : Int32) s260)) (by simpa only [List.append_assoc, List.cons_append, List.nil_append] using hM)
          refine h_callV (As := [.ref (ad (470 + 3))]) (rest := []) hx hb (hml.trans hl.1.symm) hown E hM hS xy_J4_append_15ec4 kw_581 (c_appS (sSrc_k (by decide : 3 < 9)) c261 he259.1 he259.2) (ht_m List.mem_cons_self) gC_J4.1 rfl rfl (Nat.le_of_ble_eq_true rfl) ⟨(Nat.le_of_ble_eq_true rfl), (Nat.le_of_ble_eq_true rfl)⟩ ⟨(show _ ≤ 106 by omega), (show _ ≤ 148189 by omega)⟩ dX8_line_282 (fun rv H locs hZ hS => ?_)
          obtain ⟨vb262, w263, rfl, he264, hM⟩ := hZ
          rw [← hs265] at hM he264
          replace hM := hW.left (X := (FX ++ [(sa, sO va), (va, sV cy t9), (a226, sO va227), (va227, sV cy s224), (a249, sO va250), (va250, sV cy s247)])) hM
          replace hM : hW D cy ad b μ (lws cy ad la204 ν203) (FX ++ [(sa, sO va), (va, sV cy t9), (a226, sO va227), (va227, sV cy s224), (a249, sO va250), (va250, sV cy s247)] ++ sB cy a254 vb262 w263 (0 : Int32) s265) H := by simpa only [List.append_assoc, List.cons_append, List.nil_append] using hM
          refine lv_iload hx hb dX8_line_285 (lv_at hl 0 rfl) ?_
          obtain ⟨c266, h⟩ := gchk_e h
          obtain ⟨s270, hs270, h⟩ := gnm h
          replace hM := hW.right (X := (FX ++ [(sa, sO va), (va, sV cy t9), (a226, sO va227), (va227, sV cy s224), (a249, sO va250), (va250, sV cy s247)])) (T := (sB cy a254 vb262 w263 (0 : Int32) s265)) (by simpa only [List.append_assoc, List.cons_append, List.nil_append] using hM)
          refine h_callV (As := [.int y253]) (rest := []) hx hb (hml.trans hl.1.symm) hown E hM hS xy_J4_append_bf812 kw_699 (by have h9 := c_appI (l := l) (D := D) (cy := cy) (ad := ad) (b := b) (μ := μ) (P := ((lws cy ad la204 ν203) ++ (FX ++ [(sa, sO va), (va, sV cy t9), (a226, sO va227), (va227, sV cy s224), (a249, sO va250), (va250, sV cy s247)]))) (ba := a254) (vb := vb262) (w := w263) (ml := 0) (U := s265) c266.1.2 c266.2 he264.1 he264.2; rwa [← gIn_e c266.1] at h9) (ht_m List.mem_cons_self) gC_J4.1 rfl rfl (Nat.le_of_ble_eq_true rfl) ⟨(Nat.le_of_ble_eq_true rfl), (Nat.le_of_ble_eq_true rfl)⟩ ⟨(show _ ≤ 106 by omega), (show _ ≤ 148189 by omega)⟩ dX8_line_287 (fun rv H locs hZ hS => ?_)
          obtain ⟨vb267, w268, rfl, he269, hM⟩ := hZ
          rw [← hs270] at hM he269
          replace hM := hW.left (X := (FX ++ [(sa, sO va), (va, sV cy t9), (a226, sO va227), (va227, sV cy s224), (a249, sO va250), (va250, sV cy s247)])) hM
          replace hM : hW D cy ad b μ (lws cy ad la204 ν203) (FX ++ [(sa, sO va), (va, sV cy t9), (a226, sO va227), (va227, sV cy s224), (a249, sO va250), (va250, sV cy s247)] ++ sB cy a254 vb267 w268 (0 : Int32) s270) H := by simpa only [List.append_assoc, List.cons_append, List.nil_append] using hM
          replace hM := hW.right (X := (FX ++ [(sa, sO va), (va, sV cy t9), (a226, sO va227), (va227, sV cy s224), (a249, sO va250), (va250, sV cy s247)])) (T := (sB cy a254 vb267 w268 (0 : Int32) s270)) (by simpa only [List.append_assoc, List.cons_append, List.nil_append] using hM)
          refine h_callV (As := []) (rest := []) hx hb (hml.trans hl.1.symm) hown E hM hS xy_J4_toString_0e30d kw_725 (c_toS he269.1 he269.2) (ht_m List.mem_cons_self) gC_J4.1 rfl rfl (Nat.le_of_ble_eq_true rfl) ⟨(Nat.le_of_ble_eq_true rfl), (Nat.le_of_ble_eq_true rfl)⟩ ⟨(show _ ≤ 106 by omega), (show _ ≤ 148189 by omega)⟩ dX8_line_290 (fun rv H locs hZ hS => ?_)
          obtain ⟨a272, va273, rfl, hM⟩ := hZ
          replace hM := hW.left (X := (FX ++ [(sa, sO va), (va, sV cy t9), (a226, sO va227), (va227, sV cy s224), (a249, sO va250), (va250, sV cy s247)])) hM
          replace hM := hW.cutM (A := (FX ++ [(sa, sO va), (va, sV cy t9), (a226, sO va227), (va227, sV cy s224), (a249, sO va250), (va250, sV cy s247)])) hM
          replace hM : hW D cy ad b μ (lws cy ad la204 ν203) (FX ++ [(sa, sO va), (va, sV cy t9), (a226, sO va227), (va227, sV cy s224), (a249, sO va250), (va250, sV cy s247), (a272, sO va273), (va273, sV cy s270)]) H := by simpa only [List.append_assoc, List.cons_append, List.nil_append] using hM
          refine lv_astore (lv' := [(5, .ref a272), (11, .int y253), (10, .int (2 : Int32)), (9, .int (4 : Int32)), (8, .ref a196), (7, .ref a196), (0, .ref (la204 0 0)), (1, .int p1), (2, .int p2), (6, .int (1 : Int32))]) hx hb dX8_line_293 hl (by decide) rfl (fun ls hl => ?_)
          refine lv_iinc (v := (3 : Int32)) (lv' := [(10, .int (3 : Int32)), (5, .ref a272), (11, .int y253), (9, .int (4 : Int32)), (8, .ref a196), (7, .ref a196), (0, .ref (la204 0 0)), (1, .int p1), (2, .int p2), (6, .int (1 : Int32))]) hx hb dX8_line_295 hl (k := 2) rfl (by decide) (by decide) rfl (fun ls hl => ?_)
          refine lv_goto (tgt := 254) hx hb dX8_line_298 (by decide) ?_
          refine lv_iload hx hb dX8_line_254 (lv_at hl 0 rfl) ?_
          refine lv_iload hx hb dX8_line_256 (lv_at hl 3 rfl) ?_
          refine lv_icmp_ge (tgt := 301) hx hb dX8_line_258 (by decide) (fun c274 => ?_) (fun c274 => ?_)
          · exact absurd c274 (by decide)
          · refine lv_aload hx hb dX8_line_261 (lv_at hl 4 rfl) ?_
            refine lv_iload hx hb dX8_line_263 (lv_at hl 0 rfl) ?_
            refine l_iald hx hb E hM (hp_m hrow) (⟨by decide, by decide⟩ : gIn (3 : Int32) 4) (v := (gi ν203 (100 + 8 * p1.toNatClampNeg + (lSz ν p1.toNatClampNeg)) 3)) (congrArg (ν203.1 (100 + 8 * p1.toNatClampNeg + (lSz ν p1.toNatClampNeg))) (by decide : (3 : Int32).toNatClampNeg = 3)) dX8_line_265 ?_
            obtain ⟨y276, hy276, h⟩ := gnm h
            rw [← hy276]
            refine lv_istore (lv' := [(11, .int y276), (10, .int (3 : Int32)), (5, .ref a272), (9, .int (4 : Int32)), (8, .ref a196), (7, .ref a196), (0, .ref (la204 0 0)), (1, .int p1), (2, .int p2), (6, .int (1 : Int32))]) hx hb dX8_line_266 hl (by decide) rfl (fun ls hl => ?_)
            refine h_new hx hb hown E hM hS gC_J4 kw_549 kw_550 kw_63 (fs := [.null, .int (0 : Int32), .int (0 : Int32), .int (0 : Int32)]) (by decide +kernel) (show _ ≤ 106 by omega) (show _ ≤ 148189 by omega) dX8_line_268 (fun a277 H hM hS => ?_)
            replace hM : hW D cy ad b μ (lws cy ad la204 ν203) (FX ++ [(sa, sO va), (va, sV cy t9), (a226, sO va227), (va227, sV cy s224), (a249, sO va250), (va250, sV cy s247), (a272, sO va273), (va273, sV cy s270), (a277, .inr (10, [.null, .int (0 : Int32), .int (0 : Int32), .int (0 : Int32)]))]) H := by simpa only [List.append_assoc, List.cons_append, List.nil_append] using hM
            refine lv_dup hx hb dX8_line_271 rfl ?_
            replace hM := hW.right (X := (FX ++ [(sa, sO va), (va, sV cy t9), (a226, sO va227), (va227, sV cy s224), (a249, sO va250), (va250, sV cy s247), (a272, sO va273), (va273, sV cy s270)])) (T := [(a277, .inr (10, [.null, .int (0 : Int32), .int (0 : Int32), .int (0 : Int32)]))]) (by simpa only [List.append_assoc, List.cons_append, List.nil_append] using hM)
            refine h_callI (As := []) (rest := [.ref a277]) hx hb (hml.trans hl.1.symm) hown E hM hS xi_J4_init_da8c8 kw_551 c_binit rfl rfl (Nat.le_of_ble_eq_true rfl) ⟨(Nat.le_of_ble_eq_true rfl), (Nat.le_of_ble_eq_true rfl)⟩ ⟨(show _ ≤ 106 by omega), (show _ ≤ 148189 by omega)⟩ dX8_line_272 (fun rv H locs hZ hS => ?_)
            obtain ⟨vb278, rfl, hM⟩ := hZ
            replace hM := hW.left (X := (FX ++ [(sa, sO va), (va, sV cy t9), (a226, sO va227), (va227, sV cy s224), (a249, sO va250), (va250, sV cy s247), (a272, sO va273), (va273, sV cy s270)])) (T := (sB cy a277 vb278 16 (0 : Int32) ([] : List Nat))) hM
            replace hM : hW D cy ad b μ (lws cy ad la204 ν203) (FX ++ [(sa, sO va), (va, sV cy t9), (a226, sO va227), (va227, sV cy s224), (a249, sO va250), (va250, sV cy s247), (a272, sO va273), (va273, sV cy s270)] ++ sB cy a277 vb278 16 (0 : Int32) ([] : List Nat)) H := by simpa only [List.append_assoc, List.cons_append, List.nil_append] using hM
            refine lv_aload hx hb dX8_line_275 (lv_at hl 2 rfl) ?_
            obtain ⟨c279, h⟩ := gchk_e h
            obtain ⟨s283, hs283, h⟩ := gnm h
            replace hM := hW.right (X := (FX ++ [(sa, sO va), (va, sV cy t9), (a226, sO va227), (va227, sV cy s224), (a249, sO va250), (va250, sV cy s247), (a272, sO va273), (va273, sV cy s270)])) (T := (sB cy a277 vb278 16 (0 : Int32) ([] : List Nat))) (by simpa only [List.append_assoc, List.cons_append, List.nil_append] using hM)
            refine h_callV (As := [.ref a272]) (rest := []) hx hb (hml.trans hl.1.symm) hown E hM hS xy_J4_append_15ec4 kw_581 (c_appS (Or.inr ⟨List.mem_append_right _ (List.mem_append_right _ (List.mem_of_getElem? (i := 6) rfl)), List.mem_append_right _ (List.mem_append_right _ (List.mem_of_getElem? (i := 7) rfl))⟩) c279 (show ([] : List Nat).length ≤ 16 by decide) (show 16 ≤ 2056 by decide)) (ht_m List.mem_cons_self) gC_J4.1 rfl rfl (Nat.le_of_ble_eq_true rfl) ⟨(Nat.le_of_ble_eq_true rfl), (Nat.le_of_ble_eq_true rfl)⟩ ⟨(show _ ≤ 106 by omega), (show _ ≤ 148189 by omega)⟩ dX8_line_277 (fun rv H locs hZ hS => ?_)
            obtain ⟨vb280, w281, rfl, he282, hM⟩ := hZ
            rw [← hs283] at hM he282
            replace hM := hW.left (X := (FX ++ [(sa, sO va), (va, sV cy t9), (a226, sO va227), (va227, sV cy s224), (a249, sO va250), (va250, sV cy s247), (a272, sO va273), (va273, sV cy s270)])) hM
            replace hM : hW D cy ad b μ (lws cy ad la204 ν203) (FX ++ [(sa, sO va), (va, sV cy t9), (a226, sO va227), (va227, sV cy s224), (a249, sO va250), (va250, sV cy s247), (a272, sO va273), (va273, sV cy s270)] ++ sB cy a277 vb280 w281 (0 : Int32) s283) H := by simpa only [List.append_assoc, List.cons_append, List.nil_append] using hM
            refine va_ldcS hx hb hown (E.2.2.2.2.2.2.2.2.2.2.2.1 3 (by decide)) dX8_line_280 ?_
            obtain ⟨c284, h⟩ := gchk_e h
            obtain ⟨s288, hs288, h⟩ := gnm h
            replace hM := hW.right (X := (FX ++ [(sa, sO va), (va, sV cy t9), (a226, sO va227), (va227, sV cy s224), (a249, sO va250), (va250, sV cy s247), (a272, sO va273), (va273, sV cy s270)])) (T := (sB cy a277 vb280 w281 (0 : Int32) s283)) (by simpa only [List.append_assoc, List.cons_append, List.nil_append] using hM)
            refine h_callV (As := [.ref (ad (470 + 3))]) (rest := []) hx hb (hml.trans hl.1.symm) hown E hM hS xy_J4_append_15ec4 kw_581 (c_appS (sSrc_k (by decide : 3 < 9)) c284 he282.1 he282.2) (ht_m List.mem_cons_self) gC_J4.1 rfl rfl (Nat.le_of_ble_eq_true rfl) ⟨(Nat.le_of_ble_eq_true rfl), (Nat.le_of_ble_eq_true rfl)⟩ ⟨(show _ ≤ 106 by omega), (show _ ≤ 148189 by omega)⟩ dX8_line_282 (fun rv H locs hZ hS => ?_)
            obtain ⟨vb285, w286, rfl, he287, hM⟩ := hZ
            rw [← hs288] at hM he287
            replace hM := hW.left (X := (FX ++ [(sa, sO va), (va, sV cy t9), (a226, sO va227), (va227, sV cy s224), (a249, sO va250), (va250, sV cy s247), (a272, sO va273), (va273, sV cy s270)])) hM
            replace hM : hW D cy ad b μ (lws cy ad la204 ν203) (FX ++ [(sa, sO va), (va, sV cy t9), (a226, sO va227), (va227, sV cy s224), (a249, sO va250), (va250, sV cy s247), (a272, sO va273), (va273, sV cy s270)] ++ sB cy a277 vb285 w286 (0 : Int32) s288) H := by simpa only [List.append_assoc, List.cons_append, List.nil_append] using hM
            refine lv_iload hx hb dX8_line_285 (lv_at hl 0 rfl) ?_
            obtain ⟨c289, h⟩ := gchk_e h
            obtain ⟨s293, hs293, h⟩ := gnm h
            replace hM := hW.right (X := (FX ++ [(sa, sO va), (va, sV cy t9), (a226, sO va227), (va227, sV cy s224), (a249, sO va250), (va250, sV cy s247), (a272, sO va273), (va273, sV cy s270)])) (T := (sB cy a277 vb285 w286 (0 : Int32) s288)) (by simpa only [List.append_assoc, List.cons_append, List.nil_append] using hM)
            refine h_callV (As := [.int y276]) (rest := []) hx hb (hml.trans hl.1.symm) hown E hM hS xy_J4_append_bf812 kw_699 (by have h9 := c_appI (l := l) (D := D) (cy := cy) (ad := ad) (b := b) (μ := μ) (P := ((lws cy ad la204 ν203) ++ (FX ++ [(sa, sO va), (va, sV cy t9), (a226, sO va227), (va227, sV cy s224), (a249, sO va250), (va250, sV cy s247), (a272, sO va273), (va273, sV cy s270)]))) (ba := a277) (vb := vb285) (w := w286) (ml := 0) (U := s288) c289.1.2 c289.2 he287.1 he287.2; rwa [← gIn_e c289.1] at h9) (ht_m List.mem_cons_self) gC_J4.1 rfl rfl (Nat.le_of_ble_eq_true rfl) ⟨(Nat.le_of_ble_eq_true rfl), (Nat.le_of_ble_eq_true rfl)⟩ ⟨(show _ ≤ 106 by omega), (show _ ≤ 148189 by omega)⟩ dX8_line_287 (fun rv H locs hZ hS => ?_)
            obtain ⟨vb290, w291, rfl, he292, hM⟩ := hZ
            rw [← hs293] at hM he292
            replace hM := hW.left (X := (FX ++ [(sa, sO va), (va, sV cy t9), (a226, sO va227), (va227, sV cy s224), (a249, sO va250), (va250, sV cy s247), (a272, sO va273), (va273, sV cy s270)])) hM
            replace hM : hW D cy ad b μ (lws cy ad la204 ν203) (FX ++ [(sa, sO va), (va, sV cy t9), (a226, sO va227), (va227, sV cy s224), (a249, sO va250), (va250, sV cy s247), (a272, sO va273), (va273, sV cy s270)] ++ sB cy a277 vb290 w291 (0 : Int32) s293) H := by simpa only [List.append_assoc, List.cons_append, List.nil_append] using hM
            replace hM := hW.right (X := (FX ++ [(sa, sO va), (va, sV cy t9), (a226, sO va227), (va227, sV cy s224), (a249, sO va250), (va250, sV cy s247), (a272, sO va273), (va273, sV cy s270)])) (T := (sB cy a277 vb290 w291 (0 : Int32) s293)) (by simpa only [List.append_assoc, List.cons_append, List.nil_append] using hM)
            refine h_callV (As := []) (rest := []) hx hb (hml.trans hl.1.symm) hown E hM hS xy_J4_toString_0e30d kw_725 (c_toS he292.1 he292.2) (ht_m List.mem_cons_self) gC_J4.1 rfl rfl (Nat.le_of_ble_eq_true rfl) ⟨(Nat.le_of_ble_eq_true rfl), (Nat.le_of_ble_eq_true rfl)⟩ ⟨(show _ ≤ 106 by omega), (show _ ≤ 148189 by omega)⟩ dX8_line_290 (fun rv H locs hZ hS => ?_)
            obtain ⟨a295, va296, rfl, hM⟩ := hZ
            replace hM := hW.left (X := (FX ++ [(sa, sO va), (va, sV cy t9), (a226, sO va227), (va227, sV cy s224), (a249, sO va250), (va250, sV cy s247), (a272, sO va273), (va273, sV cy s270)])) hM
            replace hM := hW.cutM (A := (FX ++ [(sa, sO va), (va, sV cy t9), (a226, sO va227), (va227, sV cy s224), (a249, sO va250), (va250, sV cy s247), (a272, sO va273), (va273, sV cy s270)])) hM
            replace hM : hW D cy ad b μ (lws cy ad la204 ν203) (FX ++ [(sa, sO va), (va, sV cy t9), (a226, sO va227), (va227, sV cy s224), (a249, sO va250), (va250, sV cy s247), (a272, sO va273), (va273, sV cy s270), (a295, sO va296), (va296, sV cy s293)]) H := by simpa only [List.append_assoc, List.cons_append, List.nil_append] using hM
            refine lv_astore (lv' := [(5, .ref a295), (11, .int y276), (10, .int (3 : Int32)), (9, .int (4 : Int32)), (8, .ref a196), (7, .ref a196), (0, .ref (la204 0 0)), (1, .int p1), (2, .int p2), (6, .int (1 : Int32))]) hx hb dX8_line_293 hl (by decide) rfl (fun ls hl => ?_)
            refine lv_iinc (v := (4 : Int32)) (lv' := [(10, .int (4 : Int32)), (5, .ref a295), (11, .int y276), (9, .int (4 : Int32)), (8, .ref a196), (7, .ref a196), (0, .ref (la204 0 0)), (1, .int p1), (2, .int p2), (6, .int (1 : Int32))]) hx hb dX8_line_295 hl (k := 2) rfl (by decide) (by decide) rfl (fun ls hl => ?_)
            refine lv_goto (tgt := 254) hx hb dX8_line_298 (by decide) ?_
            refine lv_iload hx hb dX8_line_254 (lv_at hl 0 rfl) ?_
            refine lv_iload hx hb dX8_line_256 (lv_at hl 3 rfl) ?_
            refine lv_icmp_ge (tgt := 301) hx hb dX8_line_258 (by decide) (fun c297 => ?_) (fun c297 => ?_)
            · refine lv_iinc (v := (2 : Int32)) (lv' := [(6, .int (2 : Int32)), (10, .int (4 : Int32)), (5, .ref a295), (11, .int y276), (9, .int (4 : Int32)), (8, .ref a196), (7, .ref a196), (0, .ref (la204 0 0)), (1, .int p1), (2, .int p2)]) hx hb dX8_line_301 hl (k := 9) rfl (by decide) (by decide) rfl (fun ls hl => ?_)
              refine lv_goto (tgt := 145) hx hb dX8_line_304 (by decide) ?_
              replace hM := hW.cutM (A := (FX)) (B := [(sa, sO va), (va, sV cy t9)]) (C := [(a226, sO va227), (va227, sV cy s224), (a249, sO va250), (va250, sV cy s247), (a272, sO va273), (va273, sV cy s270), (a295, sO va296), (va296, sV cy s293)]) (by simpa only [List.append_assoc, List.cons_append, List.nil_append] using hM)
              replace hM : hW D cy ad b μ (lws cy ad la204 ν203) (FX ++ [(a226, sO va227), (va227, sV cy s224), (a249, sO va250), (va250, sV cy s247), (a272, sO va273), (va273, sV cy s270), (a295, sO va296), (va296, sV cy s293)]) H := (by simpa only [List.append_assoc, List.cons_append, List.nil_append] using hM)
              replace hM := hW.cutM (A := (FX)) (B := [(a226, sO va227), (va227, sV cy s224)]) (C := [(a249, sO va250), (va250, sV cy s247), (a272, sO va273), (va273, sV cy s270), (a295, sO va296), (va296, sV cy s293)]) (by simpa only [List.append_assoc, List.cons_append, List.nil_append] using hM)
              replace hM : hW D cy ad b μ (lws cy ad la204 ν203) (FX ++ [(a249, sO va250), (va250, sV cy s247), (a272, sO va273), (va273, sV cy s270), (a295, sO va296), (va296, sV cy s293)]) H := (by simpa only [List.append_assoc, List.cons_append, List.nil_append] using hM)
              replace hM := hW.cutM (A := (FX)) (B := [(a249, sO va250), (va250, sV cy s247)]) (C := [(a272, sO va273), (va273, sV cy s270), (a295, sO va296), (va296, sV cy s293)]) (by simpa only [List.append_assoc, List.cons_append, List.nil_append] using hM)
              replace hM : hW D cy ad b μ (lws cy ad la204 ν203) (FX ++ [(a272, sO va273), (va273, sV cy s270), (a295, sO va296), (va296, sV cy s293)]) H := (by simpa only [List.append_assoc, List.cons_append, List.nil_append] using hM)
              replace hM := hW.cutM (A := (FX)) (B := [(a272, sO va273), (va273, sV cy s270)]) (C := [(a295, sO va296), (va296, sV cy s293)]) (by simpa only [List.append_assoc, List.cons_append, List.nil_append] using hM)
              replace hM : hW D cy ad b μ (lws cy ad la204 ν203) (FX ++ [(a295, sO va296), (va296, sV cy s293)]) H := (by simpa only [List.append_assoc, List.cons_append, List.nil_append] using hM)
              exact wj_L_line_j2 h F E hoo hs (by omega) (by omega) hM hS (lv_sub hl [7, 8, 9, 2, 0] rfl)
            · exact absurd (by decide) c297
def j_L_line_j0 (p1 p2 : Int32) (t9 : List Nat) (ν μ : gM) : Option (List Nat × gM) :=
  Option.bind (f_L_mod (p2 >>> ((9 : Int32) &&& 31)) (3 : Int32) μ) (fun q59 => if (q59 < (0 : Int32)) then gchk ((([] : List Nat)).length + (t9).length ≤ 1024) (Option.bind (some (([] : List Nat) ++ t9)) (fun s67 => gchk ((s67).length + (sTx 1).length ≤ 1024) (Option.bind (some (s67 ++ sTx 1)) (fun s72 => some (s72, ν))))) else Option.bind (f_L_mod (p2 >>> ((0 : Int32) &&& 31)) (4000 : Int32) μ) (fun q77 => Option.bind (f_L_mod (p2 >>> (((3 : Int32) + (0 : Int32)) &&& 31)) (4000 : Int32) μ) (fun q78 => Option.bind (f_L_mod (p2 >>> (((11 : Int32) + (0 : Int32)) &&& 31)) (90 : Int32) μ) (fun q79 => Option.bind (f_L_mod (p2 >>> (((15 : Int32) + (0 : Int32)) &&& 31)) (90 : Int32) μ) (fun q80 => gchk (gIn p1 (lLs ν)) (gchk (lSz ν p1.toNatClampNeg = 0) (Option.bind (some (lgrow ν p1.toNatClampNeg (upd (upd (upd (upd (fun _ => 0) 0 q77) 1 q78) 2 ((1 : Int32) + q79)) 3 ((1 : Int32) + q80)))) (fun ν84 => Option.bind (some (gi ν84 (100 + 8 * p1.toNatClampNeg + (lSz ν p1.toNatClampNeg)) 0)) (fun y88 => gchk ((([] : List Nat)).length + (t9).length ≤ 1024) (Option.bind (some (([] : List Nat) ++ t9)) (fun s95 => gchk ((s95).length + (sTx 3).length ≤ 1024) (Option.bind (some (s95 ++ sTx 3)) (fun s100 => gchk (gIn y88 1000000 ∧ (s100).length + (sdig y88.toNatClampNeg).length ≤ 1024) (Option.bind (some (s100 ++ sdig y88.toNatClampNeg)) (fun s105 => Option.bind (some (gi ν84 (100 + 8 * p1.toNatClampNeg + (lSz ν p1.toNatClampNeg)) 1)) (fun y111 => gchk ((([] : List Nat)).length + (s105).length ≤ 1024) (Option.bind (some (([] : List Nat) ++ s105)) (fun s118 => gchk ((s118).length + (sTx 3).length ≤ 1024) (Option.bind (some (s118 ++ sTx 3)) (fun s123 => gchk (gIn y111 1000000 ∧ (s123).length + (sdig y111.toNatClampNeg).length ≤ 1024) (Option.bind (some (s123 ++ sdig y111.toNatClampNeg)) (fun s128 => Option.bind (some (gi ν84 (100 + 8 * p1.toNatClampNeg + (lSz ν p1.toNatClampNeg)) 2)) (fun y134 => gchk ((([] : List Nat)).length + (s128).length ≤ 1024) (Option.bind (some (([] : List Nat) ++ s128)) (fun s141 => gchk ((s141).length + (sTx 3).length ≤ 1024) (Option.bind (some (s141 ++ sTx 3)) (fun s146 => gchk (gIn y134 1000000 ∧ (s146).length + (sdig y134.toNatClampNeg).length ≤ 1024) (Option.bind (some (s146 ++ sdig y134.toNatClampNeg)) (fun s151 => Option.bind (some (gi ν84 (100 + 8 * p1.toNatClampNeg + (lSz ν p1.toNatClampNeg)) 3)) (fun y157 => gchk ((([] : List Nat)).length + (s151).length ≤ 1024) (Option.bind (some (([] : List Nat) ++ s151)) (fun s164 => gchk ((s164).length + (sTx 3).length ≤ 1024) (Option.bind (some (s164 ++ sTx 3)) (fun s169 => gchk (gIn y157 1000000 ∧ (s169).length + (sdig y157.toNatClampNeg).length ≤ 1024) (Option.bind (some (s169 ++ sdig y157.toNatClampNeg)) (fun s174 => j_L_line_j1 p1 p2 s174 ν84 μ))))))))))))))))))))))))))))))))))))
set_option maxHeartbeats 20000000 in
set_option maxRecDepth 100000 in
theorem wj_L_line_j0 {p : Program} {l : Launch} {e : Env} {s : State} {m : MethodId} {args : Array Value} {below : List Frame} {meth : Method} {c : Code} {D : va_G} {cy : Nat → ClassId} {ad : Nat → Nat} {b o0 sa va : Nat} {la : Nat → Nat → Nat} {FX : va_W} {μ ν : gM} {p1 p2 : Int32} {t9 : List Nat} {o : List Nat × gM} {cells slots : Nat} (h : j_L_line_j0 p1 p2 t9 ν μ = some o) (F : gF p s m meth c cX8_line RX8 12 (some (.object "java/lang/String"))) (E : hE l D cy ad b s) (hoo : la 0 0 = o0) (hs : lS ν) (hc : cells + 94 ≤ 106) (hsl : slots + 131715 ≤ 148189) {H : Heap} {locs : List Loc} {ls : Array Slot} (hM : hW D cy ad b μ (lws cy ad la ν) (FX ++ [(sa, sO va), (va, sV cy t9)]) H) (hS : va_S (hA b) s.heap H locs) (hl : lv_has ls 12 [(0, .ref (la 0 0)), (1, .int p1), (2, .int p2), (5, .ref sa), (6, .int (0 : Int32))]) : W p l e ({ frames := 7, cells := 106, slots := 148189, locals := 171 } : Room) s m args below meth c H locs cells slots (MQ below (hQ b (fun rv H => ∃ la1 : Nat → Nat → Nat, ∃ sa va : Nat, rv = some (.ref sa) ∧ lS o.2 ∧ hW D cy ad b μ (lws cy ad la1 o.2) (FX ++ [(sa, sO va), (va, sV cy o.1)]) H ∧ la1 0 0 = o0)) args s 106 148189 (hA b)) (F0 m 145 ls []) := by
  obtain ⟨hx, hb, hml, hown, hlocks, hr⟩ := id F
  have hY := lY0_self (cy := cy) (ad := ad) (la := la) hs
  unfold j_L_line_j0 at h
  refine lv_iload hx hb dX8_line_145 (lv_at hl 4 rfl) ?_
  refine lv_iload_n hx hb dX8_line_147 rfl (lv_at hl 2 rfl) ?_
  refine lv_bipush (v := (9 : Int32)) hx hb dX8_line_148 (by decide) ?_
  refine lv_ishr hx hb dX8_line_150 ?_
  refine lv_iconst (v := (3 : Int32)) hx hb dX8_line_151 (by decide) ?_
  obtain ⟨q59, hq59, h⟩ := gbind_e h
  refine h_callSCN (As := [.int (p2 >>> ((9 : Int32) &&& 31)), .int (3 : Int32)]) (rest := [.int (0 : Int32)]) hx hb (hml.trans hl.1.symm) hown E hM hS hy_L_mod (E.2.1.2.2.1 _ (List.mem_of_getElem? (i := 1) rfl)) (c_L_mod hq59) rfl rfl (Nat.le_of_ble_eq_true rfl) ⟨(Nat.le_of_ble_eq_true rfl), (Nat.le_of_ble_eq_true rfl)⟩ ⟨(show _ ≤ 106 by omega), (show _ ≤ 148189 by omega)⟩ dX8_line_152 (fun H locs hM hS => ?_)
  refine lv_icmp_gt (tgt := 307) hx hb dX8_line_155 (by decide) (fun c60 => ?_) (fun c60 => ?_)
  · replace h := gif_t c60 h
    refine h_new hx hb hown E hM hS gC_J4 kw_549 kw_550 kw_63 (fs := [.null, .int (0 : Int32), .int (0 : Int32), .int (0 : Int32)]) (by decide +kernel) (show _ ≤ 106 by omega) (show _ ≤ 148189 by omega) dX8_line_307 (fun a61 H hM hS => ?_)
    replace hM : hW D cy ad b μ (lws cy ad la ν) (FX ++ [(sa, sO va), (va, sV cy t9), (a61, .inr (10, [.null, .int (0 : Int32), .int (0 : Int32), .int (0 : Int32)]))]) H := by simpa only [List.append_assoc, List.cons_append, List.nil_append] using hM
    refine lv_dup hx hb dX8_line_310 rfl ?_
    replace hM := hW.right (X := (FX ++ [(sa, sO va), (va, sV cy t9)])) (T := [(a61, .inr (10, [.null, .int (0 : Int32), .int (0 : Int32), .int (0 : Int32)]))]) (by simpa only [List.append_assoc, List.cons_append, List.nil_append] using hM)
    refine h_callI (As := []) (rest := [.ref a61]) hx hb (hml.trans hl.1.symm) hown E hM hS xi_J4_init_da8c8 kw_551 c_binit rfl rfl (Nat.le_of_ble_eq_true rfl) ⟨(Nat.le_of_ble_eq_true rfl), (Nat.le_of_ble_eq_true rfl)⟩ ⟨(show _ ≤ 106 by omega), (show _ ≤ 148189 by omega)⟩ dX8_line_311 (fun rv H locs hZ hS => ?_)
    obtain ⟨vb62, rfl, hM⟩ := hZ
    replace hM := hW.left (X := (FX ++ [(sa, sO va), (va, sV cy t9)])) (T := (sB cy a61 vb62 16 (0 : Int32) ([] : List Nat))) hM
    replace hM : hW D cy ad b μ (lws cy ad la ν) (FX ++ [(sa, sO va), (va, sV cy t9)] ++ sB cy a61 vb62 16 (0 : Int32) ([] : List Nat)) H := by simpa only [List.append_assoc, List.cons_append, List.nil_append] using hM
    refine lv_aload hx hb dX8_line_314 (lv_at hl 3 rfl) ?_
    obtain ⟨c63, h⟩ := gchk_e h
    obtain ⟨s67, hs67, h⟩ := gnm h
    replace hM := hW.right (X := (FX ++ [(sa, sO va), (va, sV cy t9)])) (T := (sB cy a61 vb62 16 (0 : Int32) ([] : List Nat))) (by simpa only [List.append_assoc, List.cons_append, List.nil_append] using hM)
    refine h_callV (As := [.ref sa]) (rest := []) hx hb (hml.trans hl.1.symm) hown E hM hS xy_J4_append_15ec4 kw_581 (c_appS (Or.inr ⟨List.mem_append_right _ (List.mem_append_right _ (List.mem_of_getElem? (i := 0) rfl)), List.mem_append_right _ (List.mem_append_right _ (List.mem_of_getElem? (i := 1) rfl))⟩) c63 (show ([] : List Nat).length ≤ 16 by decide) (show 16 ≤ 2056 by decide)) (ht_m List.mem_cons_self) gC_J4.1 rfl rfl (Nat.le_of_ble_eq_true rfl) ⟨(Nat.le_of_ble_eq_true rfl), (Nat.le_of_ble_eq_true rfl)⟩ ⟨(show _ ≤ 106 by omega), (show _ ≤ 148189 by omega)⟩ dX8_line_316 (fun rv H locs hZ hS => ?_)
    obtain ⟨vb64, w65, rfl, he66, hM⟩ := hZ
    rw [← hs67] at hM he66
    replace hM := hW.left (X := (FX ++ [(sa, sO va), (va, sV cy t9)])) hM
    replace hM : hW D cy ad b μ (lws cy ad la ν) (FX ++ [(sa, sO va), (va, sV cy t9)] ++ sB cy a61 vb64 w65 (0 : Int32) s67) H := by simpa only [List.append_assoc, List.cons_append, List.nil_append] using hM
    refine va_ldcS hx hb hown (E.2.2.2.2.2.2.2.2.2.2.2.1 1 (by decide)) dX8_line_319 ?_
    obtain ⟨c68, h⟩ := gchk_e h
    obtain ⟨s72, hs72, h⟩ := gnm h
    replace hM := hW.right (X := (FX ++ [(sa, sO va), (va, sV cy t9)])) (T := (sB cy a61 vb64 w65 (0 : Int32) s67)) (by simpa only [List.append_assoc, List.cons_append, List.nil_append] using hM)
    refine h_callV (As := [.ref (ad (470 + 1))]) (rest := []) hx hb (hml.trans hl.1.symm) hown E hM hS xy_J4_append_15ec4 kw_581 (c_appS (sSrc_k (by decide : 1 < 9)) c68 he66.1 he66.2) (ht_m List.mem_cons_self) gC_J4.1 rfl rfl (Nat.le_of_ble_eq_true rfl) ⟨(Nat.le_of_ble_eq_true rfl), (Nat.le_of_ble_eq_true rfl)⟩ ⟨(show _ ≤ 106 by omega), (show _ ≤ 148189 by omega)⟩ dX8_line_321 (fun rv H locs hZ hS => ?_)
    obtain ⟨vb69, w70, rfl, he71, hM⟩ := hZ
    rw [← hs72] at hM he71
    replace hM := hW.left (X := (FX ++ [(sa, sO va), (va, sV cy t9)])) hM
    replace hM : hW D cy ad b μ (lws cy ad la ν) (FX ++ [(sa, sO va), (va, sV cy t9)] ++ sB cy a61 vb69 w70 (0 : Int32) s72) H := by simpa only [List.append_assoc, List.cons_append, List.nil_append] using hM
    replace hM := hW.right (X := (FX ++ [(sa, sO va), (va, sV cy t9)])) (T := (sB cy a61 vb69 w70 (0 : Int32) s72)) (by simpa only [List.append_assoc, List.cons_append, List.nil_append] using hM)
    refine h_callV (As := []) (rest := []) hx hb (hml.trans hl.1.symm) hown E hM hS xy_J4_toString_0e30d kw_725 (c_toS he71.1 he71.2) (ht_m List.mem_cons_self) gC_J4.1 rfl rfl (Nat.le_of_ble_eq_true rfl) ⟨(Nat.le_of_ble_eq_true rfl), (Nat.le_of_ble_eq_true rfl)⟩ ⟨(show _ ≤ 106 by omega), (show _ ≤ 148189 by omega)⟩ dX8_line_324 (fun rv H locs hZ hS => ?_)
    obtain ⟨a74, va75, rfl, hM⟩ := hZ
    replace hM := hW.left (X := (FX ++ [(sa, sO va), (va, sV cy t9)])) hM
    replace hM := hW.cutM (A := (FX ++ [(sa, sO va), (va, sV cy t9)])) hM
    replace hM : hW D cy ad b μ (lws cy ad la ν) (FX ++ [(sa, sO va), (va, sV cy t9), (a74, sO va75), (va75, sV cy s72)]) H := by simpa only [List.append_assoc, List.cons_append, List.nil_append] using hM
    obtain rfl := Option.some.inj h
    replace hM := hW.cutM (A := (FX)) (B := [(sa, sO va), (va, sV cy t9)]) (C := [(a74, sO va75), (va75, sV cy s72)]) (by simpa only [List.append_assoc, List.cons_append, List.nil_append] using hM)
    replace hM : hW D cy ad b μ (lws cy ad la ν) (FX ++ [(a74, sO va75), (va75, sV cy s72)]) H := (by simpa only [List.append_assoc, List.cons_append, List.nil_append] using hM)
    exact h_aret hx hb hr (Or.inl ⟨_, rfl⟩) hlocks (by omega) (by omega) ⟨_, _, _, rfl, hs, hM, hoo⟩ hS dX8_line_327
  · replace h := gif_f c60 h
    refine lv_iconst (v := (4 : Int32)) hx hb dX8_line_158 (by decide) ?_
    refine l_newI hx hb E hM hS (show _ ≤ 106 by omega) (show _ ≤ 148189 by omega) dX8_line_159 (fun a76 H hM hS => ?_)
    replace hM : hW D cy ad b μ (lws cy ad la ν) (FX ++ [(sa, sO va), (va, sV cy t9), (a76, .inl (cy 0, 4, .inl (fun _ => 0)))]) H := by simpa only [List.append_assoc, List.cons_append, List.nil_append] using hM
    refine lv_dup hx hb dX8_line_161 rfl ?_
    refine lv_iconst (v := (0 : Int32)) hx hb dX8_line_162 (by decide) ?_
    refine lv_iload_n hx hb dX8_line_163 rfl (lv_at hl 2 rfl) ?_
    refine lv_iload hx hb dX8_line_164 (lv_at hl 4 rfl) ?_
    refine lv_ishr hx hb dX8_line_166 ?_
    refine lv_sipush (v := (4000 : Int32)) hx hb dX8_line_167 (by decide) ?_
    obtain ⟨q77, hq77, h⟩ := gbind_e h
    refine h_callSCN (As := [.int (p2 >>> ((0 : Int32) &&& 31)), .int (4000 : Int32)]) (rest := [.int (0 : Int32), .ref a76, .ref a76]) hx hb (hml.trans hl.1.symm) hown E hM hS hy_L_mod (E.2.1.2.2.1 _ (List.mem_of_getElem? (i := 1) rfl)) (c_L_mod hq77) rfl rfl (Nat.le_of_ble_eq_true rfl) ⟨(Nat.le_of_ble_eq_true rfl), (Nat.le_of_ble_eq_true rfl)⟩ ⟨(show _ ≤ 106 by omega), (show _ ≤ 148189 by omega)⟩ dX8_line_170 (fun H locs hM hS => ?_)
    refine h_iast (j := FX.length + 2) hx hb E hM hS (x_get rfl) (⟨by decide, by decide⟩ : gIn (0 : Int32) 4) dX8_line_173 (fun H locs hM hS => ?_)
    rw [x_set] at hM
    replace hM : hW D cy ad b μ (lws cy ad la ν) (FX ++ [(sa, sO va), (va, sV cy t9), (a76, .inl (cy 0, 4, .inl (upd (fun _ => 0) 0 q77)))]) H := hM
    refine lv_dup hx hb dX8_line_174 rfl ?_
    refine lv_iconst (v := (1 : Int32)) hx hb dX8_line_175 (by decide) ?_
    refine lv_iload_n hx hb dX8_line_176 rfl (lv_at hl 2 rfl) ?_
    refine lv_iconst (v := (3 : Int32)) hx hb dX8_line_177 (by decide) ?_
    refine lv_iload hx hb dX8_line_178 (lv_at hl 4 rfl) ?_
    refine lv_iadd hx hb dX8_line_180 ?_
    refine lv_ishr hx hb dX8_line_181 ?_
    refine lv_sipush (v := (4000 : Int32)) hx hb dX8_line_182 (by decide) ?_
    obtain ⟨q78, hq78, h⟩ := gbind_e h
    refine h_callSCN (As := [.int (p2 >>> (((3 : Int32) + (0 : Int32)) &&& 31)), .int (4000 : Int32)]) (rest := [.int (1 : Int32), .ref a76, .ref a76]) hx hb (hml.trans hl.1.symm) hown E hM hS hy_L_mod (E.2.1.2.2.1 _ (List.mem_of_getElem? (i := 1) rfl)) (c_L_mod hq78) rfl rfl (Nat.le_of_ble_eq_true rfl) ⟨(Nat.le_of_ble_eq_true rfl), (Nat.le_of_ble_eq_true rfl)⟩ ⟨(show _ ≤ 106 by omega), (show _ ≤ 148189 by omega)⟩ dX8_line_185 (fun H locs hM hS => ?_)
    refine h_iast (j := FX.length + 2) hx hb E hM hS (x_get rfl) (⟨by decide, by decide⟩ : gIn (1 : Int32) 4) dX8_line_188 (fun H locs hM hS => ?_)
    rw [x_set] at hM
    replace hM : hW D cy ad b μ (lws cy ad la ν) (FX ++ [(sa, sO va), (va, sV cy t9), (a76, .inl (cy 0, 4, .inl (upd (upd (fun _ => 0) 0 q77) 1 q78)))]) H := hM
    refine lv_dup hx hb dX8_line_189 rfl ?_
    refine lv_iconst (v := (2 : Int32)) hx hb dX8_line_190 (by decide) ?_
    refine lv_iconst (v := (1 : Int32)) hx hb dX8_line_191 (by decide) ?_
    refine lv_iload_n hx hb dX8_line_192 rfl (lv_at hl 2 rfl) ?_
    refine lv_bipush (v := (11 : Int32)) hx hb dX8_line_193 (by decide) ?_
    refine lv_iload hx hb dX8_line_195 (lv_at hl 4 rfl) ?_
    refine lv_iadd hx hb dX8_line_197 ?_
    refine lv_ishr hx hb dX8_line_198 ?_
    refine lv_bipush (v := (90 : Int32)) hx hb dX8_line_199 (by decide) ?_
    obtain ⟨q79, hq79, h⟩ := gbind_e h
    refine h_callSCN (As := [.int (p2 >>> (((11 : Int32) + (0 : Int32)) &&& 31)), .int (90 : Int32)]) (rest := [.int (1 : Int32), .int (2 : Int32), .ref a76, .ref a76]) hx hb (hml.trans hl.1.symm) hown E hM hS hy_L_mod (E.2.1.2.2.1 _ (List.mem_of_getElem? (i := 1) rfl)) (c_L_mod hq79) rfl rfl (Nat.le_of_ble_eq_true rfl) ⟨(Nat.le_of_ble_eq_true rfl), (Nat.le_of_ble_eq_true rfl)⟩ ⟨(show _ ≤ 106 by omega), (show _ ≤ 148189 by omega)⟩ dX8_line_201 (fun H locs hM hS => ?_)
    refine lv_iadd hx hb dX8_line_204 ?_
    refine h_iast (j := FX.length + 2) hx hb E hM hS (x_get rfl) (⟨by decide, by decide⟩ : gIn (2 : Int32) 4) dX8_line_205 (fun H locs hM hS => ?_)
    rw [x_set] at hM
    replace hM : hW D cy ad b μ (lws cy ad la ν) (FX ++ [(sa, sO va), (va, sV cy t9), (a76, .inl (cy 0, 4, .inl (upd (upd (upd (fun _ => 0) 0 q77) 1 q78) 2 ((1 : Int32) + q79))))]) H := hM
    refine lv_dup hx hb dX8_line_206 rfl ?_
    refine lv_iconst (v := (3 : Int32)) hx hb dX8_line_207 (by decide) ?_
    refine lv_iconst (v := (1 : Int32)) hx hb dX8_line_208 (by decide) ?_
    refine lv_iload_n hx hb dX8_line_209 rfl (lv_at hl 2 rfl) ?_
    refine lv_bipush (v := (15 : Int32)) hx hb dX8_line_210 (by decide) ?_
    refine lv_iload hx hb dX8_line_212 (lv_at hl 4 rfl) ?_
    refine lv_iadd hx hb dX8_line_214 ?_
    refine lv_ishr hx hb dX8_line_215 ?_
    refine lv_bipush (v := (90 : Int32)) hx hb dX8_line_216 (by decide) ?_
    obtain ⟨q80, hq80, h⟩ := gbind_e h
    refine h_callSCN (As := [.int (p2 >>> (((15 : Int32) + (0 : Int32)) &&& 31)), .int (90 : Int32)]) (rest := [.int (1 : Int32), .int (3 : Int32), .ref a76, .ref a76]) hx hb (hml.trans hl.1.symm) hown E hM hS hy_L_mod (E.2.1.2.2.1 _ (List.mem_of_getElem? (i := 1) rfl)) (c_L_mod hq80) rfl rfl (Nat.le_of_ble_eq_true rfl) ⟨(Nat.le_of_ble_eq_true rfl), (Nat.le_of_ble_eq_true rfl)⟩ ⟨(show _ ≤ 106 by omega), (show _ ≤ 148189 by omega)⟩ dX8_line_218 (fun H locs hM hS => ?_)
    refine lv_iadd hx hb dX8_line_221 ?_
    refine h_iast (j := FX.length + 2) hx hb E hM hS (x_get rfl) (⟨by decide, by decide⟩ : gIn (3 : Int32) 4) dX8_line_222 (fun H locs hM hS => ?_)
    rw [x_set] at hM
    replace hM : hW D cy ad b μ (lws cy ad la ν) (FX ++ [(sa, sO va), (va, sV cy t9), (a76, .inl (cy 0, 4, .inl (upd (upd (upd (upd (fun _ => 0) 0 q77) 1 q78) 2 ((1 : Int32) + q79)) 3 ((1 : Int32) + q80))))]) H := hM
    refine lv_astore (lv' := [(7, .ref a76), (0, .ref (la 0 0)), (1, .int p1), (2, .int p2), (5, .ref sa), (6, .int (0 : Int32))]) hx hb dX8_line_223 hl (by decide) rfl (fun ls hl => ?_)
    refine lv_aload_n hx hb dX8_line_225 rfl (lv_at hl 1 rfl) ?_
    refine h_get hx hb hown E hM (hp_m hY.n0) gC_X8 8 (by decide) (v := .ref (la 6 0)) rfl kw_1032 dX8_line_226 ?_
    refine lv_iload_n hx hb dX8_line_229 rfl (lv_at hl 2 rfl) ?_
    obtain ⟨c81, h⟩ := gchk_e h
    replace hM := hW.low (T := (FX ++ [(sa, sO va), (va, sV cy t9), (a76, .inl (cy 0, 4, .inl (upd (upd (upd (upd (fun _ => 0) 0 q77) 1 q78) 2 ((1 : Int32) + q79)) 3 ((1 : Int32) + q80))))])) hM
    refine h_callV (As := [.int p1]) (rest := []) hx hb (hml.trans hl.1.symm) hown E hM hS xy_Jx4a65c_get_915e3 kw_870 (cl_get0 (hY.app _) c81) (hp_m ((hY.app _).c6 (by have := c81.2; omega)).1) gC_Jx4a65c.1 rfl rfl (Nat.le_of_ble_eq_true rfl) ⟨(Nat.le_of_ble_eq_true rfl), (Nat.le_of_ble_eq_true rfl)⟩ ⟨(show _ ≤ 106 by omega), (show _ ≤ 148189 by omega)⟩ dX8_line_230 (fun rv H locs hZ hS => ?_)
    obtain ⟨rfl, hM⟩ := hZ
    replace hM := hW.up (T := (FX ++ [(sa, sO va), (va, sV cy t9), (a76, .inl (cy 0, 4, .inl (upd (upd (upd (upd (fun _ => 0) 0 q77) 1 q78) 2 ((1 : Int32) + q79)) 3 ((1 : Int32) + q80))))])) hM
    refine h_castY hx hb hown E hM (hp_m (hY.c40 c81.2)) gC_Jx4a65c kw_511 dX8_line_233 ?_
    refine lv_aload hx hb dX8_line_236 (lv_at hl 0 rfl) ?_
    obtain ⟨c82, h⟩ := gchk_e h
    have hL9 := hs.2.2.1.1
    have hk1 := c81.2
    have hz9 := c82
    replace hM : hW D cy ad b μ (lws cy ad la ν) ((a76, .inl (cy 0, 4, .inl (upd (upd (upd (upd (fun _ => 0) 0 q77) 1 q78) 2 ((1 : Int32) + q79)) 3 ((1 : Int32) + q80)))) :: (FX ++ [(sa, sO va), (va, sV cy t9)])) H := hW.perm (List.Perm.append_left _ (by exact (List.perm_append_comm (l₁ := (FX ++ [(sa, sO va), (va, sV cy t9)])) (l₂ := [(a76, .inl (cy 0, 4, .inl (upd (upd (upd (upd (fun _ => 0) 0 q77) 1 q78) 2 ((1 : Int32) + q79)) 3 ((1 : Int32) + q80))))])))) (by simpa only [List.append_assoc, List.cons_append, List.nil_append] using hM)
    refine lw_add0 hx hb (hml.trans hl.1.symm) hown E hs hk1 hz9 hM hS kw_819 rfl (Nat.le_of_ble_eq_true rfl) ⟨(Nat.le_of_ble_eq_true rfl), (Nat.le_of_ble_eq_true rfl)⟩ ⟨(show _ ≤ 106 by omega), (show _ ≤ 148189 by omega)⟩ dX8_line_238 (fun r83 H locs hM hS => ?_)
    obtain ⟨ν84, hν84, h⟩ := gupd h
    rw [← hν84] at hM
    replace hs : lS ν84 := by rw [hν84]; exact (lgrow_S hs hk1 (by omega))
    obtain ⟨la85, hla85⟩ : ∃ x, x = lset (lset la (100 + p1.toNatClampNeg) 0 a76) 60 p1.toNatClampNeg r83 := ⟨_, rfl⟩
    rw [← hla85] at hM
    have ho1 : la85 0 0 = la 0 0 := by rw [hla85]; repeat rw [lset_ne2 (by omega)]
    replace hoo := ho1.trans hoo
    rw [← ho1] at hl
    have hY := lY0_self (cy := cy) (ad := ad) (la := la85) hs
    have hrow := l_rowm0 (k := p1.toNatClampNeg) hY (by rw [hla85, hz9, lset_ne (show 100 + _ ≠ 60 by omega), lset_eq]) hν84 hk1 (by omega) hL9
    refine lv_pop hx hb dX8_line_241 rfl ?_
    refine lv_aload hx hb dX8_line_242 (lv_at hl 0 rfl) ?_
    refine lv_astore (lv' := [(8, .ref a76), (7, .ref a76), (0, .ref (la85 0 0)), (1, .int p1), (2, .int p2), (5, .ref sa), (6, .int (0 : Int32))]) hx hb dX8_line_244 hl (by decide) rfl (fun ls hl => ?_)
    refine lv_aload hx hb dX8_line_246 (lv_at hl 0 rfl) ?_
    refine h_alen hx hb E hM 0 (ty := .int) (hp_m hrow) rfl (v := (4 : Int32)) rfl dX8_line_248 ?_
    refine lv_istore (lv' := [(9, .int (4 : Int32)), (8, .ref a76), (7, .ref a76), (0, .ref (la85 0 0)), (1, .int p1), (2, .int p2), (5, .ref sa), (6, .int (0 : Int32))]) hx hb dX8_line_249 hl (by decide) rfl (fun ls hl => ?_)
    refine lv_iconst (v := (0 : Int32)) hx hb dX8_line_251 (by decide) ?_
    refine lv_istore (lv' := [(10, .int (0 : Int32)), (9, .int (4 : Int32)), (8, .ref a76), (7, .ref a76), (0, .ref (la85 0 0)), (1, .int p1), (2, .int p2), (5, .ref sa), (6, .int (0 : Int32))]) hx hb dX8_line_252 hl (by decide) rfl (fun ls hl => ?_)
    refine lv_iload hx hb dX8_line_254 (lv_at hl 0 rfl) ?_
    refine lv_iload hx hb dX8_line_256 (lv_at hl 1 rfl) ?_
    refine lv_icmp_ge (tgt := 301) hx hb dX8_line_258 (by decide) (fun c86 => ?_) (fun c86 => ?_)
    · exact absurd c86 (by decide)
    · refine lv_aload hx hb dX8_line_261 (lv_at hl 2 rfl) ?_
      refine lv_iload hx hb dX8_line_263 (lv_at hl 0 rfl) ?_
      refine l_iald hx hb E hM (hp_m hrow) (⟨by decide, by decide⟩ : gIn (0 : Int32) 4) (v := (gi ν84 (100 + 8 * p1.toNatClampNeg + (lSz ν p1.toNatClampNeg)) 0)) (congrArg (ν84.1 (100 + 8 * p1.toNatClampNeg + (lSz ν p1.toNatClampNeg))) (by decide : (0 : Int32).toNatClampNeg = 0)) dX8_line_265 ?_
      obtain ⟨y88, hy88, h⟩ := gnm h
      rw [← hy88]
      refine lv_istore (lv' := [(11, .int y88), (10, .int (0 : Int32)), (9, .int (4 : Int32)), (8, .ref a76), (7, .ref a76), (0, .ref (la85 0 0)), (1, .int p1), (2, .int p2), (5, .ref sa), (6, .int (0 : Int32))]) hx hb dX8_line_266 hl (by decide) rfl (fun ls hl => ?_)
      refine h_new hx hb hown E hM hS gC_J4 kw_549 kw_550 kw_63 (fs := [.null, .int (0 : Int32), .int (0 : Int32), .int (0 : Int32)]) (by decide +kernel) (show _ ≤ 106 by omega) (show _ ≤ 148189 by omega) dX8_line_268 (fun a89 H hM hS => ?_)
      replace hM : hW D cy ad b μ (lws cy ad la85 ν84) (FX ++ [(sa, sO va), (va, sV cy t9), (a89, .inr (10, [.null, .int (0 : Int32), .int (0 : Int32), .int (0 : Int32)]))]) H := by simpa only [List.append_assoc, List.cons_append, List.nil_append] using hM
      refine lv_dup hx hb dX8_line_271 rfl ?_
      replace hM := hW.right (X := (FX ++ [(sa, sO va), (va, sV cy t9)])) (T := [(a89, .inr (10, [.null, .int (0 : Int32), .int (0 : Int32), .int (0 : Int32)]))]) (by simpa only [List.append_assoc, List.cons_append, List.nil_append] using hM)
      refine h_callI (As := []) (rest := [.ref a89]) hx hb (hml.trans hl.1.symm) hown E hM hS xi_J4_init_da8c8 kw_551 c_binit rfl rfl (Nat.le_of_ble_eq_true rfl) ⟨(Nat.le_of_ble_eq_true rfl), (Nat.le_of_ble_eq_true rfl)⟩ ⟨(show _ ≤ 106 by omega), (show _ ≤ 148189 by omega)⟩ dX8_line_272 (fun rv H locs hZ hS => ?_)
      obtain ⟨vb90, rfl, hM⟩ := hZ
      replace hM := hW.left (X := (FX ++ [(sa, sO va), (va, sV cy t9)])) (T := (sB cy a89 vb90 16 (0 : Int32) ([] : List Nat))) hM
      replace hM : hW D cy ad b μ (lws cy ad la85 ν84) (FX ++ [(sa, sO va), (va, sV cy t9)] ++ sB cy a89 vb90 16 (0 : Int32) ([] : List Nat)) H := by simpa only [List.append_assoc, List.cons_append, List.nil_append] using hM
      refine lv_aload hx hb dX8_line_275 (lv_at hl 8 rfl) ?_
      obtain ⟨c91, h⟩ := gchk_e h
      obtain ⟨s95, hs95, h⟩ := gnm h
      replace hM := hW.right (X := (FX ++ [(sa, sO va), (va, sV cy t9)])) (T := (sB cy a89 vb90 16 (0 : Int32) ([] : List Nat))) (by simpa only [List.append_assoc, List.cons_append, List.nil_append] using hM)
      refine h_callV (As := [.ref sa]) (rest := []) hx hb (hml.trans hl.1.symm) hown E hM hS xy_J4_append_15ec4 kw_581 (c_appS (Or.inr ⟨List.mem_append_right _ (List.mem_append_right _ (List.mem_of_getElem? (i := 0) rfl)), List.mem_append_right _ (List.mem_append_right _ (List.mem_of_getElem? (i := 1) rfl))⟩) c91 (show ([] : List Nat).length ≤ 16 by decide) (show 16 ≤ 2056 by decide)) (ht_m List.mem_cons_self) gC_J4.1 rfl rfl (Nat.le_of_ble_eq_true rfl) ⟨(Nat.le_of_ble_eq_true rfl), (Nat.le_of_ble_eq_true rfl)⟩ ⟨(show _ ≤ 106 by omega), (show _ ≤ 148189 by omega)⟩ dX8_line_277 (fun rv H locs hZ hS => ?_)
      obtain ⟨vb92, w93, rfl, he94, hM⟩ := hZ
      rw [← hs95] at hM he94
      replace hM := hW.left (X := (FX ++ [(sa, sO va), (va, sV cy t9)])) hM
      replace hM : hW D cy ad b μ (lws cy ad la85 ν84) (FX ++ [(sa, sO va), (va, sV cy t9)] ++ sB cy a89 vb92 w93 (0 : Int32) s95) H := by simpa only [List.append_assoc, List.cons_append, List.nil_append] using hM
      refine va_ldcS hx hb hown (E.2.2.2.2.2.2.2.2.2.2.2.1 3 (by decide)) dX8_line_280 ?_
      obtain ⟨c96, h⟩ := gchk_e h
      obtain ⟨s100, hs100, h⟩ := gnm h
      replace hM := hW.right (X := (FX ++ [(sa, sO va), (va, sV cy t9)])) (T := (sB cy a89 vb92 w93 (0 : Int32) s95)) (by simpa only [List.append_assoc, List.cons_append, List.nil_append] using hM)
      refine h_callV (As := [.ref (ad (470 + 3))]) (rest := []) hx hb (hml.trans hl.1.symm) hown E hM hS xy_J4_append_15ec4 kw_581 (c_appS (sSrc_k (by decide : 3 < 9)) c96 he94.1 he94.2) (ht_m List.mem_cons_self) gC_J4.1 rfl rfl (Nat.le_of_ble_eq_true rfl) ⟨(Nat.le_of_ble_eq_true rfl), (Nat.le_of_ble_eq_true rfl)⟩ ⟨(show _ ≤ 106 by omega), (show _ ≤ 148189 by omega)⟩ dX8_line_282 (fun rv H locs hZ hS => ?_)
      obtain ⟨vb97, w98, rfl, he99, hM⟩ := hZ
      rw [← hs100] at hM he99
      replace hM := hW.left (X := (FX ++ [(sa, sO va), (va, sV cy t9)])) hM
      replace hM : hW D cy ad b μ (lws cy ad la85 ν84) (FX ++ [(sa, sO va), (va, sV cy t9)] ++ sB cy a89 vb97 w98 (0 : Int32) s100) H := by simpa only [List.append_assoc, List.cons_append, List.nil_append] using hM
      refine lv_iload hx hb dX8_line_285 (lv_at hl 0 rfl) ?_
      obtain ⟨c101, h⟩ := gchk_e h
      obtain ⟨s105, hs105, h⟩ := gnm h
      replace hM := hW.right (X := (FX ++ [(sa, sO va), (va, sV cy t9)])) (T := (sB cy a89 vb97 w98 (0 : Int32) s100)) (by simpa only [List.append_assoc, List.cons_append, List.nil_append] using hM)
      refine h_callV (As := [.int y88]) (rest := []) hx hb (hml.trans hl.1.symm) hown E hM hS xy_J4_append_bf812 kw_699 (by have h9 := c_appI (l := l) (D := D) (cy := cy) (ad := ad) (b := b) (μ := μ) (P := ((lws cy ad la85 ν84) ++ (FX ++ [(sa, sO va), (va, sV cy t9)]))) (ba := a89) (vb := vb97) (w := w98) (ml := 0) (U := s100) c101.1.2 c101.2 he99.1 he99.2; rwa [← gIn_e c101.1] at h9) (ht_m List.mem_cons_self) gC_J4.1 rfl rfl (Nat.le_of_ble_eq_true rfl) ⟨(Nat.le_of_ble_eq_true rfl), (Nat.le_of_ble_eq_true rfl)⟩ ⟨(show _ ≤ 106 by omega), (show _ ≤ 148189 by omega)⟩ dX8_line_287 (fun rv H locs hZ hS => ?_)
      obtain ⟨vb102, w103, rfl, he104, hM⟩ := hZ
      rw [← hs105] at hM he104
      replace hM := hW.left (X := (FX ++ [(sa, sO va), (va, sV cy t9)])) hM
      replace hM : hW D cy ad b μ (lws cy ad la85 ν84) (FX ++ [(sa, sO va), (va, sV cy t9)] ++ sB cy a89 vb102 w103 (0 : Int32) s105) H := by simpa only [List.append_assoc, List.cons_append, List.nil_append] using hM
      replace hM := hW.right (X := (FX ++ [(sa, sO va), (va, sV cy t9)])) (T := (sB cy a89 vb102 w103 (0 : Int32) s105)) (by simpa only [List.append_assoc, List.cons_append, List.nil_append] using hM)
      refine h_callV (As := []) (rest := []) hx hb (hml.trans hl.1.symm) hown E hM hS xy_J4_toString_0e30d kw_725 (c_toS he104.1 he104.2) (ht_m List.mem_cons_self) gC_J4.1 rfl rfl (Nat.le_of_ble_eq_true rfl) ⟨(Nat.le_of_ble_eq_true rfl), (Nat.le_of_ble_eq_true rfl)⟩ ⟨(show _ ≤ 106 by omega), (show _ ≤ 148189 by omega)⟩ dX8_line_290 (fun rv H locs hZ hS => ?_)
      obtain ⟨a107, va108, rfl, hM⟩ := hZ
      replace hM := hW.left (X := (FX ++ [(sa, sO va), (va, sV cy t9)])) hM
      replace hM := hW.cutM (A := (FX ++ [(sa, sO va), (va, sV cy t9)])) hM
      replace hM : hW D cy ad b μ (lws cy ad la85 ν84) (FX ++ [(sa, sO va), (va, sV cy t9), (a107, sO va108), (va108, sV cy s105)]) H := by simpa only [List.append_assoc, List.cons_append, List.nil_append] using hM
      refine lv_astore (lv' := [(5, .ref a107), (11, .int y88), (10, .int (0 : Int32)), (9, .int (4 : Int32)), (8, .ref a76), (7, .ref a76), (0, .ref (la85 0 0)), (1, .int p1), (2, .int p2), (6, .int (0 : Int32))]) hx hb dX8_line_293 hl (by decide) rfl (fun ls hl => ?_)
      refine lv_iinc (v := (1 : Int32)) (lv' := [(10, .int (1 : Int32)), (5, .ref a107), (11, .int y88), (9, .int (4 : Int32)), (8, .ref a76), (7, .ref a76), (0, .ref (la85 0 0)), (1, .int p1), (2, .int p2), (6, .int (0 : Int32))]) hx hb dX8_line_295 hl (k := 2) rfl (by decide) (by decide) rfl (fun ls hl => ?_)
      refine lv_goto (tgt := 254) hx hb dX8_line_298 (by decide) ?_
      refine lv_iload hx hb dX8_line_254 (lv_at hl 0 rfl) ?_
      refine lv_iload hx hb dX8_line_256 (lv_at hl 3 rfl) ?_
      refine lv_icmp_ge (tgt := 301) hx hb dX8_line_258 (by decide) (fun c109 => ?_) (fun c109 => ?_)
      · exact absurd c109 (by decide)
      · refine lv_aload hx hb dX8_line_261 (lv_at hl 4 rfl) ?_
        refine lv_iload hx hb dX8_line_263 (lv_at hl 0 rfl) ?_
        refine l_iald hx hb E hM (hp_m hrow) (⟨by decide, by decide⟩ : gIn (1 : Int32) 4) (v := (gi ν84 (100 + 8 * p1.toNatClampNeg + (lSz ν p1.toNatClampNeg)) 1)) (congrArg (ν84.1 (100 + 8 * p1.toNatClampNeg + (lSz ν p1.toNatClampNeg))) (by decide : (1 : Int32).toNatClampNeg = 1)) dX8_line_265 ?_
        obtain ⟨y111, hy111, h⟩ := gnm h
        rw [← hy111]
        refine lv_istore (lv' := [(11, .int y111), (10, .int (1 : Int32)), (5, .ref a107), (9, .int (4 : Int32)), (8, .ref a76), (7, .ref a76), (0, .ref (la85 0 0)), (1, .int p1), (2, .int p2), (6, .int (0 : Int32))]) hx hb dX8_line_266 hl (by decide) rfl (fun ls hl => ?_)
        refine h_new hx hb hown E hM hS gC_J4 kw_549 kw_550 kw_63 (fs := [.null, .int (0 : Int32), .int (0 : Int32), .int (0 : Int32)]) (by decide +kernel) (show _ ≤ 106 by omega) (show _ ≤ 148189 by omega) dX8_line_268 (fun a112 H hM hS => ?_)
        replace hM : hW D cy ad b μ (lws cy ad la85 ν84) (FX ++ [(sa, sO va), (va, sV cy t9), (a107, sO va108), (va108, sV cy s105), (a112, .inr (10, [.null, .int (0 : Int32), .int (0 : Int32), .int (0 : Int32)]))]) H := by simpa only [List.append_assoc, List.cons_append, List.nil_append] using hM
        refine lv_dup hx hb dX8_line_271 rfl ?_
        replace hM := hW.right (X := (FX ++ [(sa, sO va), (va, sV cy t9), (a107, sO va108), (va108, sV cy s105)])) (T := [(a112, .inr (10, [.null, .int (0 : Int32), .int (0 : Int32), .int (0 : Int32)]))]) (by simpa only [List.append_assoc, List.cons_append, List.nil_append] using hM)
        refine h_callI (As := []) (rest := [.ref a112]) hx hb (hml.trans hl.1.symm) hown E hM hS xi_J4_init_da8c8 kw_551 c_binit rfl rfl (Nat.le_of_ble_eq_true rfl) ⟨(Nat.le_of_ble_eq_true rfl), (Nat.le_of_ble_eq_true rfl)⟩ ⟨(show _ ≤ 106 by omega), (show _ ≤ 148189 by omega)⟩ dX8_line_272 (fun rv H locs hZ hS => ?_)
        obtain ⟨vb113, rfl, hM⟩ := hZ
        replace hM := hW.left (X := (FX ++ [(sa, sO va), (va, sV cy t9), (a107, sO va108), (va108, sV cy s105)])) (T := (sB cy a112 vb113 16 (0 : Int32) ([] : List Nat))) hM
        replace hM : hW D cy ad b μ (lws cy ad la85 ν84) (FX ++ [(sa, sO va), (va, sV cy t9), (a107, sO va108), (va108, sV cy s105)] ++ sB cy a112 vb113 16 (0 : Int32) ([] : List Nat)) H := by simpa only [List.append_assoc, List.cons_append, List.nil_append] using hM
        refine lv_aload hx hb dX8_line_275 (lv_at hl 2 rfl) ?_
        obtain ⟨c114, h⟩ := gchk_e h
        obtain ⟨s118, hs118, h⟩ := gnm h
        replace hM := hW.right (X := (FX ++ [(sa, sO va), (va, sV cy t9), (a107, sO va108), (va108, sV cy s105)])) (T := (sB cy a112 vb113 16 (0 : Int32) ([] : List Nat))) (by simpa only [List.append_assoc, List.cons_append, List.nil_append] using hM)
        refine h_callV (As := [.ref a107]) (rest := []) hx hb (hml.trans hl.1.symm) hown E hM hS xy_J4_append_15ec4 kw_581 (c_appS (Or.inr ⟨List.mem_append_right _ (List.mem_append_right _ (List.mem_of_getElem? (i := 2) rfl)), List.mem_append_right _ (List.mem_append_right _ (List.mem_of_getElem? (i := 3) rfl))⟩) c114 (show ([] : List Nat).length ≤ 16 by decide) (show 16 ≤ 2056 by decide)) (ht_m List.mem_cons_self) gC_J4.1 rfl rfl (Nat.le_of_ble_eq_true rfl) ⟨(Nat.le_of_ble_eq_true rfl), (Nat.le_of_ble_eq_true rfl)⟩ ⟨(show _ ≤ 106 by omega), (show _ ≤ 148189 by omega)⟩ dX8_line_277 (fun rv H locs hZ hS => ?_)
        obtain ⟨vb115, w116, rfl, he117, hM⟩ := hZ
        rw [← hs118] at hM he117
        replace hM := hW.left (X := (FX ++ [(sa, sO va), (va, sV cy t9), (a107, sO va108), (va108, sV cy s105)])) hM
        replace hM : hW D cy ad b μ (lws cy ad la85 ν84) (FX ++ [(sa, sO va), (va, sV cy t9), (a107, sO va108), (va108, sV cy s105)] ++ sB cy a112 vb115 w116 (0 : Int32) s118) H := by simpa only [List.append_assoc, List.cons_append, List.nil_append] using hM
        refine va_ldcS hx hb hown (E.2.2.2.2.2.2.2.2.2.2.2.1 3 (by decide)) dX8_line_280 ?_
        obtain ⟨c119, h⟩ := gchk_e h
        obtain ⟨s123, hs123, h⟩ := gnm h
        replace hM := hW.right (X := (FX ++ [(sa, sO va), (va, sV cy t9), (a107, sO va108), (va108, sV cy s105)])) (T := (sB cy a112 vb115 w116 (0 : Int32) s118)) (by simpa only [List.append_assoc, List.cons_append, List.nil_append] using hM)
        refine h_callV (As := [.ref (ad (470 + 3))]) (rest := []) hx hb (hml.trans hl.1.symm) hown E hM hS xy_J4_append_15ec4 kw_581 (c_appS (sSrc_k (by decide : 3 < 9)) c119 he117.1 he117.2) (ht_m List.mem_cons_self) gC_J4.1 rfl rfl (Nat.le_of_ble_eq_true rfl) ⟨(Nat.le_of_ble_eq_true rfl), (Nat.le_of_ble_eq_true rfl)⟩ ⟨(show _ ≤ 106 by omega), (show _ ≤ 148189 by omega)⟩ dX8_line_282 (fun rv H locs hZ hS => ?_)
        obtain ⟨vb120, w121, rfl, he122, hM⟩ := hZ
        rw [← hs123] at hM he122
        replace hM := hW.left (X := (FX ++ [(sa, sO va), (va, sV cy t9), (a107, sO va108), (va108, sV cy s105)])) hM
        replace hM : hW D cy ad b μ (lws cy ad la85 ν84) (FX ++ [(sa, sO va), (va, sV cy t9), (a107, sO va108), (va108, sV cy s105)] ++ sB cy a112 vb120 w121 (0 : Int32) s123) H := by simpa only [List.append_assoc, List.cons_append, List.nil_append] using hM
        refine lv_iload hx hb dX8_line_285 (lv_at hl 0 rfl) ?_
        obtain ⟨c124, h⟩ := gchk_e h
        obtain ⟨s128, hs128, h⟩ := gnm h
        replace hM := hW.right (X := (FX ++ [(sa, sO va), (va, sV cy t9), (a107, sO va108), (va108, sV cy s105)])) (T := (sB cy a112 vb120 w121 (0 : Int32) s123)) (by simpa only [List.append_assoc, List.cons_append, List.nil_append] using hM)
        refine h_callV (As := [.int y111]) (rest := []) hx hb (hml.trans hl.1.symm) hown E hM hS xy_J4_append_bf812 kw_699 (by have h9 := c_appI (l := l) (D := D) (cy := cy) (ad := ad) (b := b) (μ := μ) (P := ((lws cy ad la85 ν84) ++ (FX ++ [(sa, sO va), (va, sV cy t9), (a107, sO va108), (va108, sV cy s105)]))) (ba := a112) (vb := vb120) (w := w121) (ml := 0) (U := s123) c124.1.2 c124.2 he122.1 he122.2; rwa [← gIn_e c124.1] at h9) (ht_m List.mem_cons_self) gC_J4.1 rfl rfl (Nat.le_of_ble_eq_true rfl) ⟨(Nat.le_of_ble_eq_true rfl), (Nat.le_of_ble_eq_true rfl)⟩ ⟨(show _ ≤ 106 by omega), (show _ ≤ 148189 by omega)⟩ dX8_line_287 (fun rv H locs hZ hS => ?_)
        obtain ⟨vb125, w126, rfl, he127, hM⟩ := hZ
        rw [← hs128] at hM he127
        replace hM := hW.left (X := (FX ++ [(sa, sO va), (va, sV cy t9), (a107, sO va108), (va108, sV cy s105)])) hM
        replace hM : hW D cy ad b μ (lws cy ad la85 ν84) (FX ++ [(sa, sO va), (va, sV cy t9), (a107, sO va108), (va108, sV cy s105)] ++ sB cy a112 vb125 w126 (0 : Int32) s128) H := by simpa only [List.append_assoc, List.cons_append, List.nil_append] using hM
        replace hM := hW.right (X := (FX ++ [(sa, sO va), (va, sV cy t9), (a107, sO va108), (va108, sV cy s105)])) (T := (sB cy a112 vb125 w126 (0 : Int32) s128)) (by simpa only [List.append_assoc, List.cons_append, List.nil_append] using hM)
        refine h_callV (As := []) (rest := []) hx hb (hml.trans hl.1.symm) hown E hM hS xy_J4_toString_0e30d kw_725 (c_toS he127.1 he127.2) (ht_m List.mem_cons_self) gC_J4.1 rfl rfl (Nat.le_of_ble_eq_true rfl) ⟨(Nat.le_of_ble_eq_true rfl), (Nat.le_of_ble_eq_true rfl)⟩ ⟨(show _ ≤ 106 by omega), (show _ ≤ 148189 by omega)⟩ dX8_line_290 (fun rv H locs hZ hS => ?_)
        obtain ⟨a130, va131, rfl, hM⟩ := hZ
        replace hM := hW.left (X := (FX ++ [(sa, sO va), (va, sV cy t9), (a107, sO va108), (va108, sV cy s105)])) hM
        replace hM := hW.cutM (A := (FX ++ [(sa, sO va), (va, sV cy t9), (a107, sO va108), (va108, sV cy s105)])) hM
        replace hM : hW D cy ad b μ (lws cy ad la85 ν84) (FX ++ [(sa, sO va), (va, sV cy t9), (a107, sO va108), (va108, sV cy s105), (a130, sO va131), (va131, sV cy s128)]) H := by simpa only [List.append_assoc, List.cons_append, List.nil_append] using hM
        refine lv_astore (lv' := [(5, .ref a130), (11, .int y111), (10, .int (1 : Int32)), (9, .int (4 : Int32)), (8, .ref a76), (7, .ref a76), (0, .ref (la85 0 0)), (1, .int p1), (2, .int p2), (6, .int (0 : Int32))]) hx hb dX8_line_293 hl (by decide) rfl (fun ls hl => ?_)
        refine lv_iinc (v := (2 : Int32)) (lv' := [(10, .int (2 : Int32)), (5, .ref a130), (11, .int y111), (9, .int (4 : Int32)), (8, .ref a76), (7, .ref a76), (0, .ref (la85 0 0)), (1, .int p1), (2, .int p2), (6, .int (0 : Int32))]) hx hb dX8_line_295 hl (k := 2) rfl (by decide) (by decide) rfl (fun ls hl => ?_)
        refine lv_goto (tgt := 254) hx hb dX8_line_298 (by decide) ?_
        refine lv_iload hx hb dX8_line_254 (lv_at hl 0 rfl) ?_
        refine lv_iload hx hb dX8_line_256 (lv_at hl 3 rfl) ?_
        refine lv_icmp_ge (tgt := 301) hx hb dX8_line_258 (by decide) (fun c132 => ?_) (fun c132 => ?_)
        · exact absurd c132 (by decide)
        · refine lv_aload hx hb dX8_line_261 (lv_at hl 4 rfl) ?_
          refine lv_iload hx hb dX8_line_263 (lv_at hl 0 rfl) ?_
          refine l_iald hx hb E hM (hp_m hrow) (⟨by decide, by decide⟩ : gIn (2 : Int32) 4) (v := (gi ν84 (100 + 8 * p1.toNatClampNeg + (lSz ν p1.toNatClampNeg)) 2)) (congrArg (ν84.1 (100 + 8 * p1.toNatClampNeg + (lSz ν p1.toNatClampNeg))) (by decide : (2 : Int32).toNatClampNeg = 2)) dX8_line_265 ?_
          obtain ⟨y134, hy134, h⟩ := gnm h
          rw [← hy134]
          refine lv_istore (lv' := [(11, .int y134), (10, .int (2 : Int32)), (5, .ref a130), (9, .int (4 : Int32)), (8, .ref a76), (7, .ref a76), (0, .ref (la85 0 0)), (1, .int p1), (2, .int p2), (6, .int (0 : Int32))]) hx hb dX8_line_266 hl (by decide) rfl (fun ls hl => ?_)
          refine h_new hx hb hown E hM hS gC_J4 kw_549 kw_550 kw_63 (fs := [.null, .int (0 : Int32), .int (0 : Int32), .int (0 : Int32)]) (by decide +kernel) (show _ ≤ 106 by omega) (show _ ≤ 148189 by omega) dX8_line_268 (fun a135 H hM hS => ?_)
          replace hM : hW D cy ad b μ (lws cy ad la85 ν84) (FX ++ [(sa, sO va), (va, sV cy t9), (a107, sO va108), (va108, sV cy s105), (a130, sO va131), (va131, sV cy s128), (a135, .inr (10, [.null, .int (0 : Int32), .int (0 : Int32), .int (0 : Int32)]))]) H := by simpa only [List.append_assoc, List.cons_append, List.nil_append] using hM
          refine lv_dup hx hb dX8_line_271 rfl ?_
          replace hM := hW.right (X := (FX ++ [(sa, sO va), (va, sV cy t9), (a107, sO va108), (va108, sV cy s105), (a130, sO va131), (va131, sV cy s128)])) (T := [(a135, .inr (10, [.null, .int (0 : Int32), .int (0 : Int32), .int (0 : Int32)]))]) (by simpa only [List.append_assoc, List.cons_append, List.nil_append] using hM)
          refine h_callI (As := []) (rest := [.ref a135]) hx hb (hml.trans hl.1.symm) hown E hM hS xi_J4_init_da8c8 kw_551 c_binit rfl rfl (Nat.le_of_ble_eq_true rfl) ⟨(Nat.le_of_ble_eq_true rfl), (Nat.le_of_ble_eq_true rfl)⟩ ⟨(show _ ≤ 106 by omega), (show _ ≤ 148189 by omega)⟩ dX8_line_272 (fun rv H locs hZ hS => ?_)
          obtain ⟨vb136, rfl, hM⟩ := hZ
          replace hM := hW.left (X := (FX ++ [(sa, sO va), (va, sV cy t9), (a107, sO va108), (va108, sV cy s105), (a130, sO va131), (va131, sV cy s128)])) (T := (sB cy a135 vb136 16 (0 : Int32) ([] : List Nat))) hM
          replace hM : hW D cy ad b μ (lws cy ad la85 ν84) (FX ++ [(sa, sO va), (va, sV cy t9), (a107, sO va108), (va108, sV cy s105), (a130, sO va131), (va131, sV cy s128)] ++ sB cy a135 vb136 16 (0 : Int32) ([] : List Nat)) H := by simpa only [List.append_assoc, List.cons_append, List.nil_append] using hM
          refine lv_aload hx hb dX8_line_275 (lv_at hl 2 rfl) ?_
          obtain ⟨c137, h⟩ := gchk_e h
          obtain ⟨s141, hs141, h⟩ := gnm h
          replace hM := hW.right (X := (FX ++ [(sa, sO va), (va, sV cy t9), (a107, sO va108), (va108, sV cy s105), (a130, sO va131), (va131, sV cy s128)])) (T := (sB cy a135 vb136 16 (0 : Int32) ([] : List Nat))) (by simpa only [List.append_assoc, List.cons_append, List.nil_append] using hM)
          refine h_callV (As := [.ref a130]) (rest := []) hx hb (hml.trans hl.1.symm) hown E hM hS xy_J4_append_15ec4 kw_581 (c_appS (Or.inr ⟨List.mem_append_right _ (List.mem_append_right _ (List.mem_of_getElem? (i := 4) rfl)), List.mem_append_right _ (List.mem_append_right _ (List.mem_of_getElem? (i := 5) rfl))⟩) c137 (show ([] : List Nat).length ≤ 16 by decide) (show 16 ≤ 2056 by decide)) (ht_m List.mem_cons_self) gC_J4.1 rfl rfl (Nat.le_of_ble_eq_true rfl) ⟨(Nat.le_of_ble_eq_true rfl), (Nat.le_of_ble_eq_true rfl)⟩ ⟨(show _ ≤ 106 by omega), (show _ ≤ 148189 by omega)⟩ dX8_line_277 (fun rv H locs hZ hS => ?_)
          obtain ⟨vb138, w139, rfl, he140, hM⟩ := hZ
          rw [← hs141] at hM he140
          replace hM := hW.left (X := (FX ++ [(sa, sO va), (va, sV cy t9), (a107, sO va108), (va108, sV cy s105), (a130, sO va131), (va131, sV cy s128)])) hM
          replace hM : hW D cy ad b μ (lws cy ad la85 ν84) (FX ++ [(sa, sO va), (va, sV cy t9), (a107, sO va108), (va108, sV cy s105), (a130, sO va131), (va131, sV cy s128)] ++ sB cy a135 vb138 w139 (0 : Int32) s141) H := by simpa only [List.append_assoc, List.cons_append, List.nil_append] using hM
          refine va_ldcS hx hb hown (E.2.2.2.2.2.2.2.2.2.2.2.1 3 (by decide)) dX8_line_280 ?_
          obtain ⟨c142, h⟩ := gchk_e h
          obtain ⟨s146, hs146, h⟩ := gnm h
          replace hM := hW.right (X := (FX ++ [(sa, sO va), (va, sV cy t9), (a107, sO va108), (va108, sV cy s105), (a130, sO va131), (va131, sV cy s128)])) (T := (sB cy a135 vb138 w139 (0 : Int32) s141)) (by simpa only [List.append_assoc, List.cons_append, List.nil_append] using hM)
          refine h_callV (As := [.ref (ad (470 + 3))]) (rest := []) hx hb (hml.trans hl.1.symm) hown E hM hS xy_J4_append_15ec4 kw_581 (c_appS (sSrc_k (by decide : 3 < 9)) c142 he140.1 he140.2) (ht_m List.mem_cons_self) gC_J4.1 rfl rfl (Nat.le_of_ble_eq_true rfl) ⟨(Nat.le_of_ble_eq_true rfl), (Nat.le_of_ble_eq_true rfl)⟩ ⟨(show _ ≤ 106 by omega), (show _ ≤ 148189 by omega)⟩ dX8_line_282 (fun rv H locs hZ hS => ?_)
          obtain ⟨vb143, w144, rfl, he145, hM⟩ := hZ
          rw [← hs146] at hM he145
          replace hM := hW.left (X := (FX ++ [(sa, sO va), (va, sV cy t9), (a107, sO va108), (va108, sV cy s105), (a130, sO va131), (va131, sV cy s128)])) hM
          replace hM : hW D cy ad b μ (lws cy ad la85 ν84) (FX ++ [(sa, sO va), (va, sV cy t9), (a107, sO va108), (va108, sV cy s105), (a130, sO va131), (va131, sV cy s128)] ++ sB cy a135 vb143 w144 (0 : Int32) s146) H := by simpa only [List.append_assoc, List.cons_append, List.nil_append] using hM
          refine lv_iload hx hb dX8_line_285 (lv_at hl 0 rfl) ?_
          obtain ⟨c147, h⟩ := gchk_e h
          obtain ⟨s151, hs151, h⟩ := gnm h
          replace hM := hW.right (X := (FX ++ [(sa, sO va), (va, sV cy t9), (a107, sO va108), (va108, sV cy s105), (a130, sO va131), (va131, sV cy s128)])) (T := (sB cy a135 vb143 w144 (0 : Int32) s146)) (by simpa only [List.append_assoc, List.cons_append, List.nil_append] using hM)
          refine h_callV (As := [.int y134]) (rest := []) hx hb (hml.trans hl.1.symm) hown E hM hS xy_J4_append_bf812 kw_699 (by have h9 := c_appI (l := l) (D := D) (cy := cy) (ad := ad) (b := b) (μ := μ) (P := ((lws cy ad la85 ν84) ++ (FX ++ [(sa, sO va), (va, sV cy t9), (a107, sO va108), (va108, sV cy s105), (a130, sO va131), (va131, sV cy s128)]))) (ba := a135) (vb := vb143) (w := w144) (ml := 0) (U := s146) c147.1.2 c147.2 he145.1 he145.2; rwa [← gIn_e c147.1] at h9) (ht_m List.mem_cons_self) gC_J4.1 rfl rfl (Nat.le_of_ble_eq_true rfl) ⟨(Nat.le_of_ble_eq_true rfl), (Nat.le_of_ble_eq_true rfl)⟩ ⟨(show _ ≤ 106 by omega), (show _ ≤ 148189 by omega)⟩ dX8_line_287 (fun rv H locs hZ hS => ?_)
          obtain ⟨vb148, w149, rfl, he150, hM⟩ := hZ
          rw [← hs151] at hM he150
          replace hM := hW.left (X := (FX ++ [(sa, sO va), (va, sV cy t9), (a107, sO va108), (va108, sV cy s105), (a130, sO va131), (va131, sV cy s128)])) hM
          replace hM : hW D cy ad b μ (lws cy ad la85 ν84) (FX ++ [(sa, sO va), (va, sV cy t9), (a107, sO va108), (va108, sV cy s105), (a130, sO va131), (va131, sV cy s128)] ++ sB cy a135 vb148 w149 (0 : Int32) s151) H := by simpa only [List.append_assoc, List.cons_append, List.nil_append] using hM
          replace hM := hW.right (X := (FX ++ [(sa, sO va), (va, sV cy t9), (a107, sO va108), (va108, sV cy s105), (a130, sO va131), (va131, sV cy s128)])) (T := (sB cy a135 vb148 w149 (0 : Int32) s151)) (by simpa only [List.append_assoc, List.cons_append, List.nil_append] using hM)
          refine h_callV (As := []) (rest := []) hx hb (hml.trans hl.1.symm) hown E hM hS xy_J4_toString_0e30d kw_725 (c_toS he150.1 he150.2) (ht_m List.mem_cons_self) gC_J4.1 rfl rfl (Nat.le_of_ble_eq_true rfl) ⟨(Nat.le_of_ble_eq_true rfl), (Nat.le_of_ble_eq_true rfl)⟩ ⟨(show _ ≤ 106 by omega), (show _ ≤ 148189 by omega)⟩ dX8_line_290 (fun rv H locs hZ hS => ?_)
          obtain ⟨a153, va154, rfl, hM⟩ := hZ
          replace hM := hW.left (X := (FX ++ [(sa, sO va), (va, sV cy t9), (a107, sO va108), (va108, sV cy s105), (a130, sO va131), (va131, sV cy s128)])) hM
          replace hM := hW.cutM (A := (FX ++ [(sa, sO va), (va, sV cy t9), (a107, sO va108), (va108, sV cy s105), (a130, sO va131), (va131, sV cy s128)])) hM
          replace hM : hW D cy ad b μ (lws cy ad la85 ν84) (FX ++ [(sa, sO va), (va, sV cy t9), (a107, sO va108), (va108, sV cy s105), (a130, sO va131), (va131, sV cy s128), (a153, sO va154), (va154, sV cy s151)]) H := by simpa only [List.append_assoc, List.cons_append, List.nil_append] using hM
          refine lv_astore (lv' := [(5, .ref a153), (11, .int y134), (10, .int (2 : Int32)), (9, .int (4 : Int32)), (8, .ref a76), (7, .ref a76), (0, .ref (la85 0 0)), (1, .int p1), (2, .int p2), (6, .int (0 : Int32))]) hx hb dX8_line_293 hl (by decide) rfl (fun ls hl => ?_)
          refine lv_iinc (v := (3 : Int32)) (lv' := [(10, .int (3 : Int32)), (5, .ref a153), (11, .int y134), (9, .int (4 : Int32)), (8, .ref a76), (7, .ref a76), (0, .ref (la85 0 0)), (1, .int p1), (2, .int p2), (6, .int (0 : Int32))]) hx hb dX8_line_295 hl (k := 2) rfl (by decide) (by decide) rfl (fun ls hl => ?_)
          refine lv_goto (tgt := 254) hx hb dX8_line_298 (by decide) ?_
          refine lv_iload hx hb dX8_line_254 (lv_at hl 0 rfl) ?_
          refine lv_iload hx hb dX8_line_256 (lv_at hl 3 rfl) ?_
          refine lv_icmp_ge (tgt := 301) hx hb dX8_line_258 (by decide) (fun c155 => ?_) (fun c155 => ?_)
          · exact absurd c155 (by decide)
          · refine lv_aload hx hb dX8_line_261 (lv_at hl 4 rfl) ?_
            refine lv_iload hx hb dX8_line_263 (lv_at hl 0 rfl) ?_
            refine l_iald hx hb E hM (hp_m hrow) (⟨by decide, by decide⟩ : gIn (3 : Int32) 4) (v := (gi ν84 (100 + 8 * p1.toNatClampNeg + (lSz ν p1.toNatClampNeg)) 3)) (congrArg (ν84.1 (100 + 8 * p1.toNatClampNeg + (lSz ν p1.toNatClampNeg))) (by decide : (3 : Int32).toNatClampNeg = 3)) dX8_line_265 ?_
            obtain ⟨y157, hy157, h⟩ := gnm h
            rw [← hy157]
            refine lv_istore (lv' := [(11, .int y157), (10, .int (3 : Int32)), (5, .ref a153), (9, .int (4 : Int32)), (8, .ref a76), (7, .ref a76), (0, .ref (la85 0 0)), (1, .int p1), (2, .int p2), (6, .int (0 : Int32))]) hx hb dX8_line_266 hl (by decide) rfl (fun ls hl => ?_)
            refine h_new hx hb hown E hM hS gC_J4 kw_549 kw_550 kw_63 (fs := [.null, .int (0 : Int32), .int (0 : Int32), .int (0 : Int32)]) (by decide +kernel) (show _ ≤ 106 by omega) (show _ ≤ 148189 by omega) dX8_line_268 (fun a158 H hM hS => ?_)
            replace hM : hW D cy ad b μ (lws cy ad la85 ν84) (FX ++ [(sa, sO va), (va, sV cy t9), (a107, sO va108), (va108, sV cy s105), (a130, sO va131), (va131, sV cy s128), (a153, sO va154), (va154, sV cy s151), (a158, .inr (10, [.null, .int (0 : Int32), .int (0 : Int32), .int (0 : Int32)]))]) H := by simpa only [List.append_assoc, List.cons_append, List.nil_append] using hM
            refine lv_dup hx hb dX8_line_271 rfl ?_
            replace hM := hW.right (X := (FX ++ [(sa, sO va), (va, sV cy t9), (a107, sO va108), (va108, sV cy s105), (a130, sO va131), (va131, sV cy s128), (a153, sO va154), (va154, sV cy s151)])) (T := [(a158, .inr (10, [.null, .int (0 : Int32), .int (0 : Int32), .int (0 : Int32)]))]) (by simpa only [List.append_assoc, List.cons_append, List.nil_append] using hM)
            refine h_callI (As := []) (rest := [.ref a158]) hx hb (hml.trans hl.1.symm) hown E hM hS xi_J4_init_da8c8 kw_551 c_binit rfl rfl (Nat.le_of_ble_eq_true rfl) ⟨(Nat.le_of_ble_eq_true rfl), (Nat.le_of_ble_eq_true rfl)⟩ ⟨(show _ ≤ 106 by omega), (show _ ≤ 148189 by omega)⟩ dX8_line_272 (fun rv H locs hZ hS => ?_)
            obtain ⟨vb159, rfl, hM⟩ := hZ
            replace hM := hW.left (X := (FX ++ [(sa, sO va), (va, sV cy t9), (a107, sO va108), (va108, sV cy s105), (a130, sO va131), (va131, sV cy s128), (a153, sO va154), (va154, sV cy s151)])) (T := (sB cy a158 vb159 16 (0 : Int32) ([] : List Nat))) hM
            replace hM : hW D cy ad b μ (lws cy ad la85 ν84) (FX ++ [(sa, sO va), (va, sV cy t9), (a107, sO va108), (va108, sV cy s105), (a130, sO va131), (va131, sV cy s128), (a153, sO va154), (va154, sV cy s151)] ++ sB cy a158 vb159 16 (0 : Int32) ([] : List Nat)) H := by simpa only [List.append_assoc, List.cons_append, List.nil_append] using hM
            refine lv_aload hx hb dX8_line_275 (lv_at hl 2 rfl) ?_
            obtain ⟨c160, h⟩ := gchk_e h
            obtain ⟨s164, hs164, h⟩ := gnm h
            replace hM := hW.right (X := (FX ++ [(sa, sO va), (va, sV cy t9), (a107, sO va108), (va108, sV cy s105), (a130, sO va131), (va131, sV cy s128), (a153, sO va154), (va154, sV cy s151)])) (T := (sB cy a158 vb159 16 (0 : Int32) ([] : List Nat))) (by simpa only [List.append_assoc, List.cons_append, List.nil_append] using hM)
            refine h_callV (As := [.ref a153]) (rest := []) hx hb (hml.trans hl.1.symm) hown E hM hS xy_J4_append_15ec4 kw_581 (c_appS (Or.inr ⟨List.mem_append_right _ (List.mem_append_right _ (List.mem_of_getElem? (i := 6) rfl)), List.mem_append_right _ (List.mem_append_right _ (List.mem_of_getElem? (i := 7) rfl))⟩) c160 (show ([] : List Nat).length ≤ 16 by decide) (show 16 ≤ 2056 by decide)) (ht_m List.mem_cons_self) gC_J4.1 rfl rfl (Nat.le_of_ble_eq_true rfl) ⟨(Nat.le_of_ble_eq_true rfl), (Nat.le_of_ble_eq_true rfl)⟩ ⟨(show _ ≤ 106 by omega), (show _ ≤ 148189 by omega)⟩ dX8_line_277 (fun rv H locs hZ hS => ?_)
            obtain ⟨vb161, w162, rfl, he163, hM⟩ := hZ
            rw [← hs164] at hM he163
            replace hM := hW.left (X := (FX ++ [(sa, sO va), (va, sV cy t9), (a107, sO va108), (va108, sV cy s105), (a130, sO va131), (va131, sV cy s128), (a153, sO va154), (va154, sV cy s151)])) hM
            replace hM : hW D cy ad b μ (lws cy ad la85 ν84) (FX ++ [(sa, sO va), (va, sV cy t9), (a107, sO va108), (va108, sV cy s105), (a130, sO va131), (va131, sV cy s128), (a153, sO va154), (va154, sV cy s151)] ++ sB cy a158 vb161 w162 (0 : Int32) s164) H := by simpa only [List.append_assoc, List.cons_append, List.nil_append] using hM
            refine va_ldcS hx hb hown (E.2.2.2.2.2.2.2.2.2.2.2.1 3 (by decide)) dX8_line_280 ?_
            obtain ⟨c165, h⟩ := gchk_e h
            obtain ⟨s169, hs169, h⟩ := gnm h
            replace hM := hW.right (X := (FX ++ [(sa, sO va), (va, sV cy t9), (a107, sO va108), (va108, sV cy s105), (a130, sO va131), (va131, sV cy s128), (a153, sO va154), (va154, sV cy s151)])) (T := (sB cy a158 vb161 w162 (0 : Int32) s164)) (by simpa only [List.append_assoc, List.cons_append, List.nil_append] using hM)
            refine h_callV (As := [.ref (ad (470 + 3))]) (rest := []) hx hb (hml.trans hl.1.symm) hown E hM hS xy_J4_append_15ec4 kw_581 (c_appS (sSrc_k (by decide : 3 < 9)) c165 he163.1 he163.2) (ht_m List.mem_cons_self) gC_J4.1 rfl rfl (Nat.le_of_ble_eq_true rfl) ⟨(Nat.le_of_ble_eq_true rfl), (Nat.le_of_ble_eq_true rfl)⟩ ⟨(show _ ≤ 106 by omega), (show _ ≤ 148189 by omega)⟩ dX8_line_282 (fun rv H locs hZ hS => ?_)
            obtain ⟨vb166, w167, rfl, he168, hM⟩ := hZ
            rw [← hs169] at hM he168
            replace hM := hW.left (X := (FX ++ [(sa, sO va), (va, sV cy t9), (a107, sO va108), (va108, sV cy s105), (a130, sO va131), (va131, sV cy s128), (a153, sO va154), (va154, sV cy s151)])) hM
            replace hM : hW D cy ad b μ (lws cy ad la85 ν84) (FX ++ [(sa, sO va), (va, sV cy t9), (a107, sO va108), (va108, sV cy s105), (a130, sO va131), (va131, sV cy s128), (a153, sO va154), (va154, sV cy s151)] ++ sB cy a158 vb166 w167 (0 : Int32) s169) H := by simpa only [List.append_assoc, List.cons_append, List.nil_append] using hM
            refine lv_iload hx hb dX8_line_285 (lv_at hl 0 rfl) ?_
            obtain ⟨c170, h⟩ := gchk_e h
            obtain ⟨s174, hs174, h⟩ := gnm h
            replace hM := hW.right (X := (FX ++ [(sa, sO va), (va, sV cy t9), (a107, sO va108), (va108, sV cy s105), (a130, sO va131), (va131, sV cy s128), (a153, sO va154), (va154, sV cy s151)])) (T := (sB cy a158 vb166 w167 (0 : Int32) s169)) (by simpa only [List.append_assoc, List.cons_append, List.nil_append] using hM)
            refine h_callV (As := [.int y157]) (rest := []) hx hb (hml.trans hl.1.symm) hown E hM hS xy_J4_append_bf812 kw_699 (by have h9 := c_appI (l := l) (D := D) (cy := cy) (ad := ad) (b := b) (μ := μ) (P := ((lws cy ad la85 ν84) ++ (FX ++ [(sa, sO va), (va, sV cy t9), (a107, sO va108), (va108, sV cy s105), (a130, sO va131), (va131, sV cy s128), (a153, sO va154), (va154, sV cy s151)]))) (ba := a158) (vb := vb166) (w := w167) (ml := 0) (U := s169) c170.1.2 c170.2 he168.1 he168.2; rwa [← gIn_e c170.1] at h9) (ht_m List.mem_cons_self) gC_J4.1 rfl rfl (Nat.le_of_ble_eq_true rfl) ⟨(Nat.le_of_ble_eq_true rfl), (Nat.le_of_ble_eq_true rfl)⟩ ⟨(show _ ≤ 106 by omega), (show _ ≤ 148189 by omega)⟩ dX8_line_287 (fun rv H locs hZ hS => ?_)
            obtain ⟨vb171, w172, rfl, he173, hM⟩ := hZ
            rw [← hs174] at hM he173
            replace hM := hW.left (X := (FX ++ [(sa, sO va), (va, sV cy t9), (a107, sO va108), (va108, sV cy s105), (a130, sO va131), (va131, sV cy s128), (a153, sO va154), (va154, sV cy s151)])) hM
            replace hM : hW D cy ad b μ (lws cy ad la85 ν84) (FX ++ [(sa, sO va), (va, sV cy t9), (a107, sO va108), (va108, sV cy s105), (a130, sO va131), (va131, sV cy s128), (a153, sO va154), (va154, sV cy s151)] ++ sB cy a158 vb171 w172 (0 : Int32) s174) H := by simpa only [List.append_assoc, List.cons_append, List.nil_append] using hM
            replace hM := hW.right (X := (FX ++ [(sa, sO va), (va, sV cy t9), (a107, sO va108), (va108, sV cy s105), (a130, sO va131), (va131, sV cy s128), (a153, sO va154), (va154, sV cy s151)])) (T := (sB cy a158 vb171 w172 (0 : Int32) s174)) (by simpa only [List.append_assoc, List.cons_append, List.nil_append] using hM)
            refine h_callV (As := []) (rest := []) hx hb (hml.trans hl.1.symm) hown E hM hS xy_J4_toString_0e30d kw_725 (c_toS he173.1 he173.2) (ht_m List.mem_cons_self) gC_J4.1 rfl rfl (Nat.le_of_ble_eq_true rfl) ⟨(Nat.le_of_ble_eq_true rfl), (Nat.le_of_ble_eq_true rfl)⟩ ⟨(show _ ≤ 106 by omega), (show _ ≤ 148189 by omega)⟩ dX8_line_290 (fun rv H locs hZ hS => ?_)
            obtain ⟨a176, va177, rfl, hM⟩ := hZ
            replace hM := hW.left (X := (FX ++ [(sa, sO va), (va, sV cy t9), (a107, sO va108), (va108, sV cy s105), (a130, sO va131), (va131, sV cy s128), (a153, sO va154), (va154, sV cy s151)])) hM
            replace hM := hW.cutM (A := (FX ++ [(sa, sO va), (va, sV cy t9), (a107, sO va108), (va108, sV cy s105), (a130, sO va131), (va131, sV cy s128), (a153, sO va154), (va154, sV cy s151)])) hM
            replace hM : hW D cy ad b μ (lws cy ad la85 ν84) (FX ++ [(sa, sO va), (va, sV cy t9), (a107, sO va108), (va108, sV cy s105), (a130, sO va131), (va131, sV cy s128), (a153, sO va154), (va154, sV cy s151), (a176, sO va177), (va177, sV cy s174)]) H := by simpa only [List.append_assoc, List.cons_append, List.nil_append] using hM
            refine lv_astore (lv' := [(5, .ref a176), (11, .int y157), (10, .int (3 : Int32)), (9, .int (4 : Int32)), (8, .ref a76), (7, .ref a76), (0, .ref (la85 0 0)), (1, .int p1), (2, .int p2), (6, .int (0 : Int32))]) hx hb dX8_line_293 hl (by decide) rfl (fun ls hl => ?_)
            refine lv_iinc (v := (4 : Int32)) (lv' := [(10, .int (4 : Int32)), (5, .ref a176), (11, .int y157), (9, .int (4 : Int32)), (8, .ref a76), (7, .ref a76), (0, .ref (la85 0 0)), (1, .int p1), (2, .int p2), (6, .int (0 : Int32))]) hx hb dX8_line_295 hl (k := 2) rfl (by decide) (by decide) rfl (fun ls hl => ?_)
            refine lv_goto (tgt := 254) hx hb dX8_line_298 (by decide) ?_
            refine lv_iload hx hb dX8_line_254 (lv_at hl 0 rfl) ?_
            refine lv_iload hx hb dX8_line_256 (lv_at hl 3 rfl) ?_
            refine lv_icmp_ge (tgt := 301) hx hb dX8_line_258 (by decide) (fun c178 => ?_) (fun c178 => ?_)
            · refine lv_iinc (v := (1 : Int32)) (lv' := [(6, .int (1 : Int32)), (10, .int (4 : Int32)), (5, .ref a176), (11, .int y157), (9, .int (4 : Int32)), (8, .ref a76), (7, .ref a76), (0, .ref (la85 0 0)), (1, .int p1), (2, .int p2)]) hx hb dX8_line_301 hl (k := 9) rfl (by decide) (by decide) rfl (fun ls hl => ?_)
              refine lv_goto (tgt := 145) hx hb dX8_line_304 (by decide) ?_
              replace hM := hW.cutM (A := (FX)) (B := [(sa, sO va), (va, sV cy t9)]) (C := [(a107, sO va108), (va108, sV cy s105), (a130, sO va131), (va131, sV cy s128), (a153, sO va154), (va154, sV cy s151), (a176, sO va177), (va177, sV cy s174)]) (by simpa only [List.append_assoc, List.cons_append, List.nil_append] using hM)
              replace hM : hW D cy ad b μ (lws cy ad la85 ν84) (FX ++ [(a107, sO va108), (va108, sV cy s105), (a130, sO va131), (va131, sV cy s128), (a153, sO va154), (va154, sV cy s151), (a176, sO va177), (va177, sV cy s174)]) H := (by simpa only [List.append_assoc, List.cons_append, List.nil_append] using hM)
              replace hM := hW.cutM (A := (FX)) (B := [(a107, sO va108), (va108, sV cy s105)]) (C := [(a130, sO va131), (va131, sV cy s128), (a153, sO va154), (va154, sV cy s151), (a176, sO va177), (va177, sV cy s174)]) (by simpa only [List.append_assoc, List.cons_append, List.nil_append] using hM)
              replace hM : hW D cy ad b μ (lws cy ad la85 ν84) (FX ++ [(a130, sO va131), (va131, sV cy s128), (a153, sO va154), (va154, sV cy s151), (a176, sO va177), (va177, sV cy s174)]) H := (by simpa only [List.append_assoc, List.cons_append, List.nil_append] using hM)
              replace hM := hW.cutM (A := (FX)) (B := [(a130, sO va131), (va131, sV cy s128)]) (C := [(a153, sO va154), (va154, sV cy s151), (a176, sO va177), (va177, sV cy s174)]) (by simpa only [List.append_assoc, List.cons_append, List.nil_append] using hM)
              replace hM : hW D cy ad b μ (lws cy ad la85 ν84) (FX ++ [(a153, sO va154), (va154, sV cy s151), (a176, sO va177), (va177, sV cy s174)]) H := (by simpa only [List.append_assoc, List.cons_append, List.nil_append] using hM)
              replace hM := hW.cutM (A := (FX)) (B := [(a153, sO va154), (va154, sV cy s151)]) (C := [(a176, sO va177), (va177, sV cy s174)]) (by simpa only [List.append_assoc, List.cons_append, List.nil_append] using hM)
              replace hM : hW D cy ad b μ (lws cy ad la85 ν84) (FX ++ [(a176, sO va177), (va177, sV cy s174)]) H := (by simpa only [List.append_assoc, List.cons_append, List.nil_append] using hM)
              exact wj_L_line_j1 h F E hoo hs (by omega) (by omega) hM hS (lv_sub hl [7, 8, 9, 2, 0] rfl)
            · exact absurd (by decide) c178
def f_L_line (p1 p2 : Int32) (ν μ : gM) : Option (List Nat × gM) :=
  Option.bind (f_L_mod p2 (gi ν 0 1) μ) (fun q1 => Option.bind (f_L_mod (p2 >>> ((4 : Int32) &&& 31)) ((gi ν 0 1) - (1 : Int32)) μ) (fun q2 => gchk (¬ (gi ν 0 1) = 0) (Option.bind (some (((q1 + (1 : Int32)) + q2) - ((q1 + (1 : Int32)) + q2) / (gi ν 0 1) * (gi ν 0 1))) (fun y3 => gchk (gIn p1 (lLn ν)) (gchk (gIn (0 : Int32) 2) (Option.bind (some (si ν (20 + p1.toNatClampNeg) (0 : Int32).toNatClampNeg q1)) (fun ν6 => gchk (gIn p1 (lLn ν6)) (gchk (gIn (1 : Int32) 2) (Option.bind (some (si ν6 (20 + p1.toNatClampNeg) (1 : Int32).toNatClampNeg y3)) (fun ν9 => gchk (gIn p1 (lLn ν9)) (Option.bind (some (si ν9 4 p1.toNatClampNeg ((p2 >>> ((8 : Int32) &&& 31)) &&& (1 : Int32)))) (fun ν11 => gchk (gIn p1 (lLn ν11)) (gchk ((1 : Int32) = 0 ∨ (1 : Int32) = 1) (Option.bind (some (si ν11 5 p1.toNatClampNeg (1 : Int32))) (fun ν14 => gchk (lLs ν14 < 11 ∧ (lLs ν14 ≠ 0 → (gi ν14 7 0).toNatClampNeg = 10)) (Option.bind (some (lnew ν14 (if lLs ν14 = 10 then 15 else 10))) (fun ν18 => gchk ((([] : List Nat)).length + (sTx 6).length ≤ 1024) (Option.bind (some (([] : List Nat) ++ sTx 6)) (fun s26 => gchk (gIn ((97 : Int32) + q1) 256) (gchk (gIn ((97 : Int32) + q1) 256 ∧ (s26).length + 1 ≤ 1024) (Option.bind (some (s26 ++ [((97 : Int32) + q1).toNatClampNeg])) (fun s32 => gchk ((s32).length + (sTx 7).length ≤ 1024) (Option.bind (some (s32 ++ sTx 7)) (fun s37 => gchk (gIn ((97 : Int32) + y3) 256) (gchk (gIn ((97 : Int32) + y3) 256 ∧ (s37).length + 1 ≤ 1024) (Option.bind (some (s37 ++ [((97 : Int32) + y3).toNatClampNeg])) (fun s43 => gchk ((s43).length + (sTx 8).length ≤ 1024) (Option.bind (some (s43 ++ sTx 8)) (fun s48 => gchk (gIn p1 (lLn ν18)) (gchk (gIn ((97 : Int32) + (gi ν18 4 p1.toNatClampNeg)) 256) (gchk (gIn ((97 : Int32) + (gi ν18 4 p1.toNatClampNeg)) 256 ∧ (s48).length + 1 ≤ 1024) (Option.bind (some (s48 ++ [((97 : Int32) + (gi ν18 4 p1.toNatClampNeg)).toNatClampNeg])) (fun s55 => j_L_line_j0 p1 p2 s55 ν18 μ)))))))))))))))))))))))))))))))))
set_option maxHeartbeats 4000000 in
set_option maxRecDepth 100000 in
theorem c_L_line {l : Launch} {D : va_G} {cy : Nat → ClassId} {ad : Nat → Nat} {b : Nat} {la : Nat → Nat → Nat} {FX : va_W} {μ ν : gM} {p1 p2 : Int32} {RES : List Nat × gM} (hs : lS ν) (h : f_L_line p1 p2 ν μ = some RES) : Met l yX8_line [.code yX8_line cX8_line 12 (some (.object "java/lang/String"))] ({ frames := 7, cells := 106, slots := 148189, locals := 171 } : Room) (va_Pc [.ref (la 0 0), .int p1, .int p2] (hB l D cy ad b μ (lws cy ad la ν) FX)) (hQ b (fun rv H => ∃ la1 : Nat → Nat → Nat, ∃ sa va : Nat, rv = some (.ref sa) ∧ lS RES.2 ∧ hW D cy ad b μ (lws cy ad la1 RES.2) (FX ++ [(sa, sO va), (va, sV cy RES.1)]) H ∧ la1 0 0 = (la 0 0))) 106 148189 (hA b) := by
  refine Met.ofW (cc := cX8_line) (maxL := 12) (ret := (some (.object "java/lang/String"))) (by decide +kernel) rfl ?_
  intro p e s m args below meth c s₁ B hml0 hv
  obtain ⟨rfl, E, hM⟩ := hv
  have hY := lY0_self (cy := cy) (ad := ad) (la := la) hs
  have hoo : la 0 0 = la 0 0 := rfl
  have F : gF p s m meth c cX8_line RX8 12 (some (.object "java/lang/String")) := gF_of B hml0
  obtain ⟨hx, hb, hml, hown, hlocks, hr⟩ := id F
  have hS : va_S (hA b) s.heap s.heap [] := va_S.rf
  have hl := lv_entry ([.ref (la 0 0), .int p1, .int p2]) (n := 12) (Nat.le_of_ble_eq_true rfl)
  rw [lg_entry_eq]
  generalize (lg_sl ([.ref (la 0 0), .int p1, .int p2]) ++ List.replicate (12 - (lg_sl ([.ref (la 0 0), .int p1, .int p2])).length) Slot.unset).toArray = ls at hl ⊢
  have hl : lv_has ls 12 [(0, .ref (la 0 0)), (1, .int p1), (2, .int p2)] := hl
  unfold f_L_line at h
  refine lv_iload_n hx hb dX8_line_0 rfl (lv_at hl 2 rfl) ?_
  refine lv_aload_n hx hb dX8_line_1 rfl (lv_at hl 0 rfl) ?_
  refine h_get hx hb hown E hM (hp_m hY.n0) gC_X8 1 (by decide) (v := .int (gi ν 0 1)) rfl kw_1025 dX8_line_2 ?_
  obtain ⟨q1, hq1, h⟩ := gbind_e h
  refine h_callSCN (As := [.int p2, .int (gi ν 0 1)]) (rest := []) hx hb (hml.trans hl.1.symm) hown E hM hS hy_L_mod (E.2.1.2.2.1 _ (List.mem_of_getElem? (i := 1) rfl)) (c_L_mod hq1) rfl rfl (Nat.le_of_ble_eq_true rfl) ⟨(Nat.le_of_ble_eq_true rfl), (Nat.le_of_ble_eq_true rfl)⟩ ⟨(show _ ≤ 106 by omega), (show _ ≤ 148189 by omega)⟩ dX8_line_5 (fun H locs hM hS => ?_)
  refine lv_istore_n (lv' := [(3, .int q1), (0, .ref (la 0 0)), (1, .int p1), (2, .int p2)]) hx hb dX8_line_8 rfl hl (by decide) rfl (fun ls hl => ?_)
  refine lv_iload_n hx hb dX8_line_9 rfl (lv_at hl 0 rfl) ?_
  refine lv_iconst (v := (1 : Int32)) hx hb dX8_line_10 (by decide) ?_
  refine lv_iadd hx hb dX8_line_11 ?_
  refine lv_iload_n hx hb dX8_line_12 rfl (lv_at hl 3 rfl) ?_
  refine lv_iconst (v := (4 : Int32)) hx hb dX8_line_13 (by decide) ?_
  refine lv_ishr hx hb dX8_line_14 ?_
  refine lv_aload_n hx hb dX8_line_15 rfl (lv_at hl 1 rfl) ?_
  refine h_get hx hb hown E hM (hp_m hY.n0) gC_X8 1 (by decide) (v := .int (gi ν 0 1)) rfl kw_1025 dX8_line_16 ?_
  refine lv_iconst (v := (1 : Int32)) hx hb dX8_line_19 (by decide) ?_
  refine lv_isub hx hb dX8_line_20 ?_
  obtain ⟨q2, hq2, h⟩ := gbind_e h
  refine h_callSCN (As := [.int (p2 >>> ((4 : Int32) &&& 31)), .int ((gi ν 0 1) - (1 : Int32))]) (rest := [.int (q1 + (1 : Int32))]) hx hb (hml.trans hl.1.symm) hown E hM hS hy_L_mod (E.2.1.2.2.1 _ (List.mem_of_getElem? (i := 1) rfl)) (c_L_mod hq2) rfl rfl (Nat.le_of_ble_eq_true rfl) ⟨(Nat.le_of_ble_eq_true rfl), (Nat.le_of_ble_eq_true rfl)⟩ ⟨(show _ ≤ 106 by omega), (show _ ≤ 148189 by omega)⟩ dX8_line_21 (fun H locs hM hS => ?_)
  refine lv_iadd hx hb dX8_line_24 ?_
  refine lv_aload_n hx hb dX8_line_25 rfl (lv_at hl 1 rfl) ?_
  refine h_get hx hb hown E hM (hp_m hY.n0) gC_X8 1 (by decide) (v := .int (gi ν 0 1)) rfl kw_1025 dX8_line_26 ?_
  obtain ⟨c435, h⟩ := gchk_e h
  refine lv_irem hx hb dX8_line_29 c435 ?_
  obtain ⟨y3, hy3, h⟩ := gnm h
  rw [← hy3]
  refine lv_istore (lv' := [(4, .int y3), (3, .int q1), (0, .ref (la 0 0)), (1, .int p1), (2, .int p2)]) hx hb dX8_line_30 hl (by decide) rfl (fun ls hl => ?_)
  refine lv_aload_n hx hb dX8_line_32 rfl (lv_at hl 2 rfl) ?_
  refine h_get hx hb hown E hM (hp_m hY.n0) gC_X8 5 (by decide) (v := .ref (la 3 0)) rfl kw_1029 dX8_line_33 ?_
  refine lv_iload_n hx hb dX8_line_36 rfl (lv_at hl 3 rfl) ?_
  obtain ⟨c4, h⟩ := gchk_e h
  refine h_rald hx hb E hM (hp_m hY.n3) c4 (v := .ref (la 20 p1.toNatClampNeg)) (x_lrf c4) dX8_line_37 ?_
  refine lv_iconst (v := (0 : Int32)) hx hb dX8_line_38 (by decide) ?_
  refine lv_iload_n hx hb dX8_line_39 rfl (lv_at hl 1 rfl) ?_
  obtain ⟨c5, h⟩ := gchk_e h
  have h20 := c4.2
  refine lw_ends hx hb E hs hM hS c4.2 c5 dX8_line_40 (fun H locs hM hS => ?_)
  obtain ⟨ν6, hν6, h⟩ := gupd h
  rw [← hν6] at hM
  replace hs : lS ν6 := by rw [hν6]; exact (si_S (by have := hs.1.1; unfold okid; omega) hs)
  have hY := lY0_self (cy := cy) (ad := ad) (la := la) hs
  refine lv_aload_n hx hb dX8_line_41 rfl (lv_at hl 2 rfl) ?_
  refine h_get hx hb hown E hM (hp_m hY.n0) gC_X8 5 (by decide) (v := .ref (la 3 0)) rfl kw_1029 dX8_line_42 ?_
  refine lv_iload_n hx hb dX8_line_45 rfl (lv_at hl 3 rfl) ?_
  obtain ⟨c7, h⟩ := gchk_e h
  refine h_rald hx hb E hM (hp_m hY.n3) c7 (v := .ref (la 20 p1.toNatClampNeg)) (x_lrf c7) dX8_line_46 ?_
  refine lv_iconst (v := (1 : Int32)) hx hb dX8_line_47 (by decide) ?_
  refine lv_iload hx hb dX8_line_48 (lv_at hl 0 rfl) ?_
  obtain ⟨c8, h⟩ := gchk_e h
  have h20 := c7.2
  refine lw_ends hx hb E hs hM hS c7.2 c8 dX8_line_50 (fun H locs hM hS => ?_)
  obtain ⟨ν9, hν9, h⟩ := gupd h
  rw [← hν9] at hM
  replace hs : lS ν9 := by rw [hν9]; exact (si_S (by have := hs.1.1; unfold okid; omega) hs)
  have hY := lY0_self (cy := cy) (ad := ad) (la := la) hs
  refine lv_aload_n hx hb dX8_line_51 rfl (lv_at hl 2 rfl) ?_
  refine h_get hx hb hown E hM (hp_m hY.n0) gC_X8 6 (by decide) (v := .ref (la 4 0)) rfl kw_1030 dX8_line_52 ?_
  refine lv_iload_n hx hb dX8_line_55 rfl (lv_at hl 3 rfl) ?_
  refine lv_iload_n hx hb dX8_line_56 rfl (lv_at hl 4 rfl) ?_
  refine lv_bipush (v := (8 : Int32)) hx hb dX8_line_57 (by decide) ?_
  refine lv_ishr hx hb dX8_line_59 ?_
  refine lv_iconst (v := (1 : Int32)) hx hb dX8_line_60 (by decide) ?_
  refine lv_iand hx hb dX8_line_61 ?_
  obtain ⟨c10, h⟩ := gchk_e h
  refine lw_level hx hb E hs hM hS c10 dX8_line_62 (fun H locs hM hS => ?_)
  obtain ⟨ν11, hν11, h⟩ := gupd h
  rw [← hν11] at hM
  replace hs : lS ν11 := by rw [hν11]; exact (si_S (by have := hs.1.1; unfold okid; omega) hs)
  have hY := lY0_self (cy := cy) (ad := ad) (la := la) hs
  refine lv_aload_n hx hb dX8_line_63 rfl (lv_at hl 2 rfl) ?_
  refine h_get hx hb hown E hM (hp_m hY.n0) gC_X8 7 (by decide) (v := .ref (la 5 0)) rfl kw_1031 dX8_line_64 ?_
  refine lv_iload_n hx hb dX8_line_67 rfl (lv_at hl 3 rfl) ?_
  refine lv_iconst (v := (1 : Int32)) hx hb dX8_line_68 (by decide) ?_
  obtain ⟨c12, h⟩ := gchk_e h
  obtain ⟨c13, h⟩ := gchk_e h
  refine lw_zast hx hb E hs hM hS c13 c12 dX8_line_69 (fun H locs hM hS => ?_)
  obtain ⟨ν14, hν14, h⟩ := gupd h
  rw [← hν14] at hM
  replace hs : lS ν14 := by rw [hν14]; exact (si_S (by unfold okid; omega) hs)
  have hY := lY0_self (cy := cy) (ad := ad) (la := la) hs
  refine lv_aload_n hx hb dX8_line_70 rfl (lv_at hl 2 rfl) ?_
  refine h_get hx hb hown E hM (hp_m hY.n0) gC_X8 8 (by decide) (v := .ref (la 6 0)) rfl kw_1032 dX8_line_71 ?_
  refine h_new hx hb hown E hM hS gC_Jx4a65c kw_511 kw_512 kw_61 (fs := [.int (0 : Int32), .null, .int (0 : Int32)]) (by decide +kernel) (show _ ≤ 106 by omega) (show _ ≤ 148189 by omega) dX8_line_74 (fun a15 H hM hS => ?_)
  replace hM : hW D cy ad b μ (lws cy ad la ν14) (FX ++ [(a15, .inr (13, [.int (0 : Int32), .null, .int (0 : Int32)]))]) H := by simpa only [List.append_assoc, List.cons_append, List.nil_append] using hM
  refine lv_dup hx hb dX8_line_77 rfl ?_
  replace hM := hW.right (X := (FX)) (T := [(a15, .inr (13, [.int (0 : Int32), .null, .int (0 : Int32)]))]) (by simpa only [List.append_assoc, List.cons_append, List.nil_append] using hM)
  refine h_callI (As := []) (rest := [.ref a15, .ref (la 6 0)]) hx hb (hml.trans hl.1.symm) hown E hM hS xi_Jx4a65c_init_da8c8 kw_513 c_alin rfl rfl (Nat.le_of_ble_eq_true rfl) ⟨(Nat.le_of_ble_eq_true rfl), (Nat.le_of_ble_eq_true rfl)⟩ ⟨(show _ ≤ 106 by omega), (show _ ≤ 148189 by omega)⟩ dX8_line_78 (fun rv H locs hZ hS => ?_)
  obtain ⟨rfl, hM⟩ := hZ
  replace hM := hW.left (X := (FX)) (T := [(a15, .inr (13, [.int (0 : Int32), .ref (ad 461), .int (0 : Int32)]))]) hM
  replace hM : hW D cy ad b μ (lws cy ad la ν14) (FX ++ [(a15, .inr (13, [.int (0 : Int32), .ref (ad 461), .int (0 : Int32)]))]) H := by simpa only [List.append_assoc, List.cons_append, List.nil_append] using hM
  obtain ⟨c16, h⟩ := gchk_e h
  replace hM : hW D cy ad b μ (lws cy ad la ν14) ((a15, .inr (13, [.int (0 : Int32), .ref (ad 461), .int (0 : Int32)])) :: (FX)) H := hW.perm (List.Perm.append_left _ (by exact (List.perm_append_comm (l₁ := (FX)) (l₂ := [(a15, .inr (13, [.int (0 : Int32), .ref (ad 461), .int (0 : Int32)]))])))) (by simpa only [List.append_assoc, List.cons_append, List.nil_append] using hM)
  refine lw_addL hx hb (hml.trans hl.1.symm) hown E hs c16.1 c16.2 hM hS kw_819 rfl (Nat.le_of_ble_eq_true rfl) ⟨(Nat.le_of_ble_eq_true rfl), (Nat.le_of_ble_eq_true rfl)⟩ ⟨(show _ ≤ 106 by omega), (show _ ≤ 148189 by omega)⟩ dX8_line_81 (fun r17 H locs hM hS => ?_)
  obtain ⟨ν18, hν18, h⟩ := gupd h
  rw [← hν18] at hM
  replace hs : lS ν18 := by rw [hν18]; exact (lnew_S hs c16.1 (by split <;> omega) (by split <;> omega))
  obtain ⟨la19, hla19⟩ : ∃ x, x = lset (lset la 40 (lLs ν14) a15) 7 0 r17 := ⟨_, rfl⟩
  rw [← hla19] at hM
  have ho1 : la19 0 0 = la 0 0 := by rw [hla19]; repeat rw [lset_ne2 (by omega)]
  replace hoo := ho1.trans hoo
  rw [← ho1] at hl
  have hY := lY0_self (cy := cy) (ad := ad) (la := la19) hs
  refine lv_pop hx hb dX8_line_84 rfl ?_
  refine h_new hx hb hown E hM hS gC_J4 kw_549 kw_550 kw_63 (fs := [.null, .int (0 : Int32), .int (0 : Int32), .int (0 : Int32)]) (by decide +kernel) (show _ ≤ 106 by omega) (show _ ≤ 148189 by omega) dX8_line_85 (fun a20 H hM hS => ?_)
  replace hM : hW D cy ad b μ (lws cy ad la19 ν18) (FX ++ [(a20, .inr (10, [.null, .int (0 : Int32), .int (0 : Int32), .int (0 : Int32)]))]) H := by simpa only [List.append_assoc, List.cons_append, List.nil_append] using hM
  refine lv_dup hx hb dX8_line_88 rfl ?_
  replace hM := hW.right (X := (FX)) (T := [(a20, .inr (10, [.null, .int (0 : Int32), .int (0 : Int32), .int (0 : Int32)]))]) (by simpa only [List.append_assoc, List.cons_append, List.nil_append] using hM)
  refine h_callI (As := []) (rest := [.ref a20]) hx hb (hml.trans hl.1.symm) hown E hM hS xi_J4_init_da8c8 kw_551 c_binit rfl rfl (Nat.le_of_ble_eq_true rfl) ⟨(Nat.le_of_ble_eq_true rfl), (Nat.le_of_ble_eq_true rfl)⟩ ⟨(show _ ≤ 106 by omega), (show _ ≤ 148189 by omega)⟩ dX8_line_89 (fun rv H locs hZ hS => ?_)
  obtain ⟨vb21, rfl, hM⟩ := hZ
  replace hM := hW.left (X := (FX)) (T := (sB cy a20 vb21 16 (0 : Int32) ([] : List Nat))) hM
  replace hM : hW D cy ad b μ (lws cy ad la19 ν18) (FX ++ sB cy a20 vb21 16 (0 : Int32) ([] : List Nat)) H := by simpa only [List.append_assoc, List.cons_append, List.nil_append] using hM
  refine va_ldcS hx hb hown (E.2.2.2.2.2.2.2.2.2.2.2.1 6 (by decide)) dX8_line_92 ?_
  obtain ⟨c22, h⟩ := gchk_e h
  obtain ⟨s26, hs26, h⟩ := gnm h
  replace hM := hW.right (X := (FX)) (T := (sB cy a20 vb21 16 (0 : Int32) ([] : List Nat))) (by simpa only [List.append_assoc, List.cons_append, List.nil_append] using hM)
  refine h_callV (As := [.ref (ad (470 + 6))]) (rest := []) hx hb (hml.trans hl.1.symm) hown E hM hS xy_J4_append_15ec4 kw_581 (c_appS (sSrc_k (by decide : 6 < 9)) c22 (show ([] : List Nat).length ≤ 16 by decide) (show 16 ≤ 2056 by decide)) (ht_m List.mem_cons_self) gC_J4.1 rfl rfl (Nat.le_of_ble_eq_true rfl) ⟨(Nat.le_of_ble_eq_true rfl), (Nat.le_of_ble_eq_true rfl)⟩ ⟨(show _ ≤ 106 by omega), (show _ ≤ 148189 by omega)⟩ dX8_line_94 (fun rv H locs hZ hS => ?_)
  obtain ⟨vb23, w24, rfl, he25, hM⟩ := hZ
  rw [← hs26] at hM he25
  replace hM := hW.left (X := (FX)) hM
  replace hM : hW D cy ad b μ (lws cy ad la19 ν18) (FX ++ sB cy a20 vb23 w24 (0 : Int32) s26) H := by simpa only [List.append_assoc, List.cons_append, List.nil_append] using hM
  refine lv_bipush (v := (97 : Int32)) hx hb dX8_line_97 (by decide) ?_
  refine lv_iload_n hx hb dX8_line_99 rfl (lv_at hl 1 rfl) ?_
  refine lv_iadd hx hb dX8_line_100 ?_
  obtain ⟨c27, h⟩ := gchk_e h
  refine lv_i2c (v := ((97 : Int32) + q1)) hx hb dX8_line_101 (x_i2c c27) ?_
  obtain ⟨c28, h⟩ := gchk_e h
  obtain ⟨s32, hs32, h⟩ := gnm h
  replace hM := hW.right (X := (FX)) (T := (sB cy a20 vb23 w24 (0 : Int32) s26)) (by simpa only [List.append_assoc, List.cons_append, List.nil_append] using hM)
  refine h_callV (As := [.int ((97 : Int32) + q1)]) (rest := []) hx hb (hml.trans hl.1.symm) hown E hM hS xy_J4_append_cf468 kw_786 (by have h9 := c_appC (l := l) (D := D) (cy := cy) (ad := ad) (b := b) (μ := μ) (P := ((lws cy ad la19 ν18) ++ (FX))) (ba := a20) (vb := vb23) (w := w24) (ml := 0) (U := s26) c28.1.2 c28.2 he25.1 he25.2; rwa [← gIn_e c28.1] at h9) (ht_m List.mem_cons_self) gC_J4.1 rfl rfl (Nat.le_of_ble_eq_true rfl) ⟨(Nat.le_of_ble_eq_true rfl), (Nat.le_of_ble_eq_true rfl)⟩ ⟨(show _ ≤ 106 by omega), (show _ ≤ 148189 by omega)⟩ dX8_line_102 (fun rv H locs hZ hS => ?_)
  obtain ⟨vb29, w30, rfl, he31, hM⟩ := hZ
  rw [← hs32] at hM he31
  replace hM := hW.left (X := (FX)) hM
  replace hM : hW D cy ad b μ (lws cy ad la19 ν18) (FX ++ sB cy a20 vb29 w30 (0 : Int32) s32) H := by simpa only [List.append_assoc, List.cons_append, List.nil_append] using hM
  refine va_ldcS hx hb hown (E.2.2.2.2.2.2.2.2.2.2.2.1 7 (by decide)) dX8_line_105 ?_
  obtain ⟨c33, h⟩ := gchk_e h
  obtain ⟨s37, hs37, h⟩ := gnm h
  replace hM := hW.right (X := (FX)) (T := (sB cy a20 vb29 w30 (0 : Int32) s32)) (by simpa only [List.append_assoc, List.cons_append, List.nil_append] using hM)
  refine h_callV (As := [.ref (ad (470 + 7))]) (rest := []) hx hb (hml.trans hl.1.symm) hown E hM hS xy_J4_append_15ec4 kw_581 (c_appS (sSrc_k (by decide : 7 < 9)) c33 he31.1 he31.2) (ht_m List.mem_cons_self) gC_J4.1 rfl rfl (Nat.le_of_ble_eq_true rfl) ⟨(Nat.le_of_ble_eq_true rfl), (Nat.le_of_ble_eq_true rfl)⟩ ⟨(show _ ≤ 106 by omega), (show _ ≤ 148189 by omega)⟩ dX8_line_107 (fun rv H locs hZ hS => ?_)
  obtain ⟨vb34, w35, rfl, he36, hM⟩ := hZ
  rw [← hs37] at hM he36
  replace hM := hW.left (X := (FX)) hM
  replace hM : hW D cy ad b μ (lws cy ad la19 ν18) (FX ++ sB cy a20 vb34 w35 (0 : Int32) s37) H := by simpa only [List.append_assoc, List.cons_append, List.nil_append] using hM
  refine lv_bipush (v := (97 : Int32)) hx hb dX8_line_110 (by decide) ?_
  refine lv_iload hx hb dX8_line_112 (lv_at hl 0 rfl) ?_
  refine lv_iadd hx hb dX8_line_114 ?_
  obtain ⟨c38, h⟩ := gchk_e h
  refine lv_i2c (v := ((97 : Int32) + y3)) hx hb dX8_line_115 (x_i2c c38) ?_
  obtain ⟨c39, h⟩ := gchk_e h
  obtain ⟨s43, hs43, h⟩ := gnm h
  replace hM := hW.right (X := (FX)) (T := (sB cy a20 vb34 w35 (0 : Int32) s37)) (by simpa only [List.append_assoc, List.cons_append, List.nil_append] using hM)
  refine h_callV (As := [.int ((97 : Int32) + y3)]) (rest := []) hx hb (hml.trans hl.1.symm) hown E hM hS xy_J4_append_cf468 kw_786 (by have h9 := c_appC (l := l) (D := D) (cy := cy) (ad := ad) (b := b) (μ := μ) (P := ((lws cy ad la19 ν18) ++ (FX))) (ba := a20) (vb := vb34) (w := w35) (ml := 0) (U := s37) c39.1.2 c39.2 he36.1 he36.2; rwa [← gIn_e c39.1] at h9) (ht_m List.mem_cons_self) gC_J4.1 rfl rfl (Nat.le_of_ble_eq_true rfl) ⟨(Nat.le_of_ble_eq_true rfl), (Nat.le_of_ble_eq_true rfl)⟩ ⟨(show _ ≤ 106 by omega), (show _ ≤ 148189 by omega)⟩ dX8_line_116 (fun rv H locs hZ hS => ?_)
  obtain ⟨vb40, w41, rfl, he42, hM⟩ := hZ
  rw [← hs43] at hM he42
  replace hM := hW.left (X := (FX)) hM
  replace hM : hW D cy ad b μ (lws cy ad la19 ν18) (FX ++ sB cy a20 vb40 w41 (0 : Int32) s43) H := by simpa only [List.append_assoc, List.cons_append, List.nil_append] using hM
  refine va_ldcS hx hb hown (E.2.2.2.2.2.2.2.2.2.2.2.1 8 (by decide)) dX8_line_119 ?_
  obtain ⟨c44, h⟩ := gchk_e h
  obtain ⟨s48, hs48, h⟩ := gnm h
  replace hM := hW.right (X := (FX)) (T := (sB cy a20 vb40 w41 (0 : Int32) s43)) (by simpa only [List.append_assoc, List.cons_append, List.nil_append] using hM)
  refine h_callV (As := [.ref (ad (470 + 8))]) (rest := []) hx hb (hml.trans hl.1.symm) hown E hM hS xy_J4_append_15ec4 kw_581 (c_appS (sSrc_k (by decide : 8 < 9)) c44 he42.1 he42.2) (ht_m List.mem_cons_self) gC_J4.1 rfl rfl (Nat.le_of_ble_eq_true rfl) ⟨(Nat.le_of_ble_eq_true rfl), (Nat.le_of_ble_eq_true rfl)⟩ ⟨(show _ ≤ 106 by omega), (show _ ≤ 148189 by omega)⟩ dX8_line_121 (fun rv H locs hZ hS => ?_)
  obtain ⟨vb45, w46, rfl, he47, hM⟩ := hZ
  rw [← hs48] at hM he47
  replace hM := hW.left (X := (FX)) hM
  replace hM : hW D cy ad b μ (lws cy ad la19 ν18) (FX ++ sB cy a20 vb45 w46 (0 : Int32) s48) H := by simpa only [List.append_assoc, List.cons_append, List.nil_append] using hM
  refine lv_bipush (v := (97 : Int32)) hx hb dX8_line_124 (by decide) ?_
  refine lv_aload_n hx hb dX8_line_126 rfl (lv_at hl 2 rfl) ?_
  refine h_get hx hb hown E hM (hp_m hY.n0) gC_X8 6 (by decide) (v := .ref (la19 4 0)) rfl kw_1030 dX8_line_127 ?_
  refine lv_iload_n hx hb dX8_line_130 rfl (lv_at hl 3 rfl) ?_
  obtain ⟨c49, h⟩ := gchk_e h
  refine l_iald hx hb E hM (hp_m hY.n4) c49 (v := (gi ν18 4 p1.toNatClampNeg)) rfl dX8_line_131 ?_
  refine lv_iadd hx hb dX8_line_132 ?_
  obtain ⟨c50, h⟩ := gchk_e h
  refine lv_i2c (v := ((97 : Int32) + (gi ν18 4 p1.toNatClampNeg))) hx hb dX8_line_133 (x_i2c c50) ?_
  obtain ⟨c51, h⟩ := gchk_e h
  obtain ⟨s55, hs55, h⟩ := gnm h
  replace hM := hW.right (X := (FX)) (T := (sB cy a20 vb45 w46 (0 : Int32) s48)) (by simpa only [List.append_assoc, List.cons_append, List.nil_append] using hM)
  refine h_callV (As := [.int ((97 : Int32) + (gi ν18 4 p1.toNatClampNeg))]) (rest := []) hx hb (hml.trans hl.1.symm) hown E hM hS xy_J4_append_cf468 kw_786 (by have h9 := c_appC (l := l) (D := D) (cy := cy) (ad := ad) (b := b) (μ := μ) (P := ((lws cy ad la19 ν18) ++ (FX))) (ba := a20) (vb := vb45) (w := w46) (ml := 0) (U := s48) c51.1.2 c51.2 he47.1 he47.2; rwa [← gIn_e c51.1] at h9) (ht_m List.mem_cons_self) gC_J4.1 rfl rfl (Nat.le_of_ble_eq_true rfl) ⟨(Nat.le_of_ble_eq_true rfl), (Nat.le_of_ble_eq_true rfl)⟩ ⟨(show _ ≤ 106 by omega), (show _ ≤ 148189 by omega)⟩ dX8_line_134 (fun rv H locs hZ hS => ?_)
  obtain ⟨vb52, w53, rfl, he54, hM⟩ := hZ
  rw [← hs55] at hM he54
  replace hM := hW.left (X := (FX)) hM
  replace hM : hW D cy ad b μ (lws cy ad la19 ν18) (FX ++ sB cy a20 vb52 w53 (0 : Int32) s55) H := by simpa only [List.append_assoc, List.cons_append, List.nil_append] using hM
  replace hM := hW.right (X := (FX)) (T := (sB cy a20 vb52 w53 (0 : Int32) s55)) (by simpa only [List.append_assoc, List.cons_append, List.nil_append] using hM)
  refine h_callV (As := []) (rest := []) hx hb (hml.trans hl.1.symm) hown E hM hS xy_J4_toString_0e30d kw_725 (c_toS he54.1 he54.2) (ht_m List.mem_cons_self) gC_J4.1 rfl rfl (Nat.le_of_ble_eq_true rfl) ⟨(Nat.le_of_ble_eq_true rfl), (Nat.le_of_ble_eq_true rfl)⟩ ⟨(show _ ≤ 106 by omega), (show _ ≤ 148189 by omega)⟩ dX8_line_137 (fun rv H locs hZ hS => ?_)
  obtain ⟨a57, va58, rfl, hM⟩ := hZ
  replace hM := hW.left (X := (FX)) hM
  replace hM := hW.cutM (A := (FX)) hM
  replace hM : hW D cy ad b μ (lws cy ad la19 ν18) (FX ++ [(a57, sO va58), (va58, sV cy s55)]) H := by simpa only [List.append_assoc, List.cons_append, List.nil_append] using hM
  refine lv_astore (lv' := [(5, .ref a57), (4, .int y3), (3, .int q1), (0, .ref (la19 0 0)), (1, .int p1), (2, .int p2)]) hx hb dX8_line_140 hl (by decide) rfl (fun ls hl => ?_)
  refine lv_iconst (v := (0 : Int32)) hx hb dX8_line_142 (by decide) ?_
  refine lv_istore (lv' := [(6, .int (0 : Int32)), (5, .ref a57), (4, .int y3), (3, .int q1), (0, .ref (la19 0 0)), (1, .int p1), (2, .int p2)]) hx hb dX8_line_143 hl (by decide) rfl (fun ls hl => ?_)
  exact wj_L_line_j0 h F E hoo hs (by omega) (by omega) hM hS (lv_sub hl [4, 5, 6, 1, 0] rfl)

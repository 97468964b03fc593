theorem dX8_adjusts_0 : decode cX8_adjusts 0 = .ok (.aload_n 0, 1) := by decide +kernel
theorem dX8_adjusts_1 : decode cX8_adjusts 1 = .ok (.aload_n 0, 1) := by decide +kernel
theorem dX8_adjusts_2 : decode cX8_adjusts 2 = .ok (.invokevirtual 256, 3) := by decide +kernel
theorem dX8_adjusts_5 : decode cX8_adjusts 5 = .ok (.putfield 260, 3) := by decide +kernel
theorem dX8_adjusts_8 : decode cX8_adjusts 8 = .ok (.iconst 1, 1) := by decide +kernel
theorem dX8_adjusts_9 : decode cX8_adjusts 9 = .ok (.istore_n 2, 1) := by decide +kernel
theorem dX8_adjusts_10 : decode cX8_adjusts 10 = .ok (.iload_n 2, 1) := by decide +kernel
theorem dX8_adjusts_11 : decode cX8_adjusts 11 = .ok (.iload_n 1, 1) := by decide +kernel
theorem dX8_adjusts_12 : decode cX8_adjusts 12 = .ok (.if_icmp .gt 265, 3) := by decide +kernel
theorem dX8_adjusts_15 : decode cX8_adjusts 15 = .ok (.iconst 1, 1) := by decide +kernel
theorem dX8_adjusts_16 : decode cX8_adjusts 16 = .ok (.istore_n 3, 1) := by decide +kernel
theorem dX8_adjusts_17 : decode cX8_adjusts 17 = .ok (.iconst 0, 1) := by decide +kernel
theorem dX8_adjusts_18 : decode cX8_adjusts 18 = .ok (.istore 4, 2) := by decide +kernel
theorem dX8_adjusts_20 : decode cX8_adjusts 20 = .ok (.iload 4, 2) := by decide +kernel
theorem dX8_adjusts_22 : decode cX8_adjusts 22 = .ok (.aload_n 0, 1) := by decide +kernel
theorem dX8_adjusts_23 : decode cX8_adjusts 23 = .ok (.getfield 43, 3) := by decide +kernel
theorem dX8_adjusts_26 : decode cX8_adjusts 26 = .ok (.if_icmp .ge 239, 3) := by decide +kernel
theorem dX8_adjusts_29 : decode cX8_adjusts 29 = .ok (.aload_n 0, 1) := by decide +kernel
theorem dX8_adjusts_30 : decode cX8_adjusts 30 = .ok (.getfield 260, 3) := by decide +kernel
theorem dX8_adjusts_33 : decode cX8_adjusts 33 = .ok (.iload 4, 2) := by decide +kernel
theorem dX8_adjusts_35 : decode cX8_adjusts 35 = .ok (.laload, 1) := by decide +kernel
theorem dX8_adjusts_36 : decode cX8_adjusts 36 = .ok (.ldc2_w 235, 3) := by decide +kernel
theorem dX8_adjusts_39 : decode cX8_adjusts 39 = .ok (.lcmp, 1) := by decide +kernel
theorem dX8_adjusts_40 : decode cX8_adjusts 40 = .ok (.ifCond .eq 219, 3) := by decide +kernel
theorem dX8_adjusts_43 : decode cX8_adjusts 43 = .ok (.aload_n 0, 1) := by decide +kernel
theorem dX8_adjusts_44 : decode cX8_adjusts 44 = .ok (.getfield 22, 3) := by decide +kernel
theorem dX8_adjusts_47 : decode cX8_adjusts 47 = .ok (.iload 4, 2) := by decide +kernel
theorem dX8_adjusts_49 : decode cX8_adjusts 49 = .ok (.iaload, 1) := by decide +kernel
theorem dX8_adjusts_50 : decode cX8_adjusts 50 = .ok (.ifCond .lt 6, 3) := by decide +kernel
theorem dX8_adjusts_53 : decode cX8_adjusts 53 = .ok (.goto 206, 3) := by decide +kernel
theorem dX8_adjusts_56 : decode cX8_adjusts 56 = .ok (.lconst 0, 1) := by decide +kernel
theorem dX8_adjusts_57 : decode cX8_adjusts 57 = .ok (.lstore 5, 2) := by decide +kernel
theorem dX8_adjusts_59 : decode cX8_adjusts 59 = .ok (.lconst 0, 1) := by decide +kernel
theorem dX8_adjusts_60 : decode cX8_adjusts 60 = .ok (.lstore 7, 2) := by decide +kernel
theorem dX8_adjusts_62 : decode cX8_adjusts 62 = .ok (.iconst 0, 1) := by decide +kernel
theorem dX8_adjusts_63 : decode cX8_adjusts 63 = .ok (.istore 9, 2) := by decide +kernel
theorem dX8_adjusts_65 : decode cX8_adjusts 65 = .ok (.iload 9, 2) := by decide +kernel
theorem dX8_adjusts_67 : decode cX8_adjusts 67 = .ok (.aload_n 0, 1) := by decide +kernel
theorem dX8_adjusts_68 : decode cX8_adjusts 68 = .ok (.getfield 47, 3) := by decide +kernel
theorem dX8_adjusts_71 : decode cX8_adjusts 71 = .ok (.if_icmp .ge 138, 3) := by decide +kernel
theorem dX8_adjusts_74 : decode cX8_adjusts 74 = .ok (.aload_n 0, 1) := by decide +kernel
theorem dX8_adjusts_75 : decode cX8_adjusts 75 = .ok (.getfield 58, 3) := by decide +kernel
theorem dX8_adjusts_78 : decode cX8_adjusts 78 = .ok (.iload 9, 2) := by decide +kernel
theorem dX8_adjusts_80 : decode cX8_adjusts 80 = .ok (.baload, 1) := by decide +kernel
theorem dX8_adjusts_81 : decode cX8_adjusts 81 = .ok (.ifCond .eq 122, 3) := by decide +kernel
theorem dX8_adjusts_84 : decode cX8_adjusts 84 = .ok (.aload_n 0, 1) := by decide +kernel
theorem dX8_adjusts_85 : decode cX8_adjusts 85 = .ok (.getfield 52, 3) := by decide +kernel
theorem dX8_adjusts_88 : decode cX8_adjusts 88 = .ok (.iload 9, 2) := by decide +kernel
theorem dX8_adjusts_90 : decode cX8_adjusts 90 = .ok (.aaload, 1) := by decide +kernel
theorem dX8_adjusts_91 : decode cX8_adjusts 91 = .ok (.iconst 0, 1) := by decide +kernel
theorem dX8_adjusts_92 : decode cX8_adjusts 92 = .ok (.iaload, 1) := by decide +kernel
theorem dX8_adjusts_93 : decode cX8_adjusts 93 = .ok (.iload 4, 2) := by decide +kernel
theorem dX8_adjusts_95 : decode cX8_adjusts 95 = .ok (.if_icmp .eq 20, 3) := by decide +kernel
theorem dX8_adjusts_98 : decode cX8_adjusts 98 = .ok (.aload_n 0, 1) := by decide +kernel
theorem dX8_adjusts_99 : decode cX8_adjusts 99 = .ok (.getfield 52, 3) := by decide +kernel
theorem dX8_adjusts_102 : decode cX8_adjusts 102 = .ok (.iload 9, 2) := by decide +kernel
theorem dX8_adjusts_104 : decode cX8_adjusts 104 = .ok (.aaload, 1) := by decide +kernel
theorem dX8_adjusts_105 : decode cX8_adjusts 105 = .ok (.iconst 1, 1) := by decide +kernel
theorem dX8_adjusts_106 : decode cX8_adjusts 106 = .ok (.iaload, 1) := by decide +kernel
theorem dX8_adjusts_107 : decode cX8_adjusts 107 = .ok (.iload 4, 2) := by decide +kernel
theorem dX8_adjusts_109 : decode cX8_adjusts 109 = .ok (.if_icmp .eq 6, 3) := by decide +kernel
theorem dX8_adjusts_112 : decode cX8_adjusts 112 = .ok (.goto 91, 3) := by decide +kernel
theorem dX8_adjusts_115 : decode cX8_adjusts 115 = .ok (.ldc 156, 2) := by decide +kernel
theorem dX8_adjusts_117 : decode cX8_adjusts 117 = .ok (.aload_n 0, 1) := by decide +kernel
theorem dX8_adjusts_118 : decode cX8_adjusts 118 = .ok (.iload 9, 2) := by decide +kernel
theorem dX8_adjusts_120 : decode cX8_adjusts 120 = .ok (.invokevirtual 157, 3) := by decide +kernel
theorem dX8_adjusts_123 : decode cX8_adjusts 123 = .ok (.idiv, 1) := by decide +kernel
theorem dX8_adjusts_124 : decode cX8_adjusts 124 = .ok (.i2l, 1) := by decide +kernel
theorem dX8_adjusts_125 : decode cX8_adjusts 125 = .ok (.lstore 10, 2) := by decide +kernel
theorem dX8_adjusts_127 : decode cX8_adjusts 127 = .ok (.lload 5, 2) := by decide +kernel
theorem dX8_adjusts_129 : decode cX8_adjusts 129 = .ok (.lload 10, 2) := by decide +kernel
theorem dX8_adjusts_131 : decode cX8_adjusts 131 = .ok (.aload_n 0, 1) := by decide +kernel
theorem dX8_adjusts_132 : decode cX8_adjusts 132 = .ok (.getfield 52, 3) := by decide +kernel
theorem dX8_adjusts_135 : decode cX8_adjusts 135 = .ok (.iload 9, 2) := by decide +kernel
theorem dX8_adjusts_137 : decode cX8_adjusts 137 = .ok (.aaload, 1) := by decide +kernel
theorem dX8_adjusts_138 : decode cX8_adjusts 138 = .ok (.iconst 1, 1) := by decide +kernel
theorem dX8_adjusts_139 : decode cX8_adjusts 139 = .ok (.iaload, 1) := by decide +kernel
theorem dX8_adjusts_140 : decode cX8_adjusts 140 = .ok (.iload 4, 2) := by decide +kernel
theorem dX8_adjusts_142 : decode cX8_adjusts 142 = .ok (.if_icmp .ne 28, 3) := by decide +kernel
theorem dX8_adjusts_145 : decode cX8_adjusts 145 = .ok (.aload_n 0, 1) := by decide +kernel
theorem dX8_adjusts_146 : decode cX8_adjusts 146 = .ok (.getfield 260, 3) := by decide +kernel
theorem dX8_adjusts_149 : decode cX8_adjusts 149 = .ok (.aload_n 0, 1) := by decide +kernel
theorem dX8_adjusts_150 : decode cX8_adjusts 150 = .ok (.getfield 52, 3) := by decide +kernel
theorem dX8_adjusts_153 : decode cX8_adjusts 153 = .ok (.iload 9, 2) := by decide +kernel
theorem dX8_adjusts_155 : decode cX8_adjusts 155 = .ok (.aaload, 1) := by decide +kernel
theorem dX8_adjusts_156 : decode cX8_adjusts 156 = .ok (.iconst 0, 1) := by decide +kernel
theorem dX8_adjusts_157 : decode cX8_adjusts 157 = .ok (.iaload, 1) := by decide +kernel
theorem dX8_adjusts_158 : decode cX8_adjusts 158 = .ok (.laload, 1) := by decide +kernel
theorem dX8_adjusts_159 : decode cX8_adjusts 159 = .ok (.aload_n 0, 1) := by decide +kernel
theorem dX8_adjusts_160 : decode cX8_adjusts 160 = .ok (.iload 9, 2) := by decide +kernel
theorem dX8_adjusts_162 : decode cX8_adjusts 162 = .ok (.invokevirtual 165, 3) := by decide +kernel
theorem dX8_adjusts_165 : decode cX8_adjusts 165 = .ok (.i2l, 1) := by decide +kernel
theorem dX8_adjusts_166 : decode cX8_adjusts 166 = .ok (.ladd, 1) := by decide +kernel
theorem dX8_adjusts_167 : decode cX8_adjusts 167 = .ok (.goto 25, 3) := by decide +kernel
theorem dX8_adjusts_170 : decode cX8_adjusts 170 = .ok (.aload_n 0, 1) := by decide +kernel
theorem dX8_adjusts_171 : decode cX8_adjusts 171 = .ok (.getfield 260, 3) := by decide +kernel
theorem dX8_adjusts_174 : decode cX8_adjusts 174 = .ok (.aload_n 0, 1) := by decide +kernel
theorem dX8_adjusts_175 : decode cX8_adjusts 175 = .ok (.getfield 52, 3) := by decide +kernel
theorem dX8_adjusts_178 : decode cX8_adjusts 178 = .ok (.iload 9, 2) := by decide +kernel
theorem dX8_adjusts_180 : decode cX8_adjusts 180 = .ok (.aaload, 1) := by decide +kernel
theorem dX8_adjusts_181 : decode cX8_adjusts 181 = .ok (.iconst 1, 1) := by decide +kernel
theorem dX8_adjusts_182 : decode cX8_adjusts 182 = .ok (.iaload, 1) := by decide +kernel
theorem dX8_adjusts_183 : decode cX8_adjusts 183 = .ok (.laload, 1) := by decide +kernel
theorem dX8_adjusts_184 : decode cX8_adjusts 184 = .ok (.aload_n 0, 1) := by decide +kernel
theorem dX8_adjusts_185 : decode cX8_adjusts 185 = .ok (.iload 9, 2) := by decide +kernel
theorem dX8_adjusts_187 : decode cX8_adjusts 187 = .ok (.invokevirtual 165, 3) := by decide +kernel
theorem dX8_adjusts_190 : decode cX8_adjusts 190 = .ok (.i2l, 1) := by decide +kernel
theorem dX8_adjusts_191 : decode cX8_adjusts 191 = .ok (.lsub, 1) := by decide +kernel
theorem dX8_adjusts_192 : decode cX8_adjusts 192 = .ok (.lmul, 1) := by decide +kernel
theorem dX8_adjusts_193 : decode cX8_adjusts 193 = .ok (.ladd, 1) := by decide +kernel
theorem dX8_adjusts_194 : decode cX8_adjusts 194 = .ok (.lstore 5, 2) := by decide +kernel
theorem dX8_adjusts_196 : decode cX8_adjusts 196 = .ok (.lload 7, 2) := by decide +kernel
theorem dX8_adjusts_198 : decode cX8_adjusts 198 = .ok (.lload 10, 2) := by decide +kernel
theorem dX8_adjusts_200 : decode cX8_adjusts 200 = .ok (.ladd, 1) := by decide +kernel
theorem dX8_adjusts_201 : decode cX8_adjusts 201 = .ok (.lstore 7, 2) := by decide +kernel
theorem dX8_adjusts_203 : decode cX8_adjusts 203 = .ok (.iinc 9 1, 3) := by decide +kernel
theorem dX8_adjusts_206 : decode cX8_adjusts 206 = .ok (.goto (-141), 3) := by decide +kernel
theorem dX8_adjusts_209 : decode cX8_adjusts 209 = .ok (.ldc2_w 264, 3) := by decide +kernel
theorem dX8_adjusts_212 : decode cX8_adjusts 212 = .ok (.lload 5, 2) := by decide +kernel
theorem dX8_adjusts_214 : decode cX8_adjusts 214 = .ok (.lmul, 1) := by decide +kernel
theorem dX8_adjusts_215 : decode cX8_adjusts 215 = .ok (.lload 7, 2) := by decide +kernel
theorem dX8_adjusts_217 : decode cX8_adjusts 217 = .ok (.ladd, 1) := by decide +kernel
theorem dX8_adjusts_218 : decode cX8_adjusts 218 = .ok (.ldc2_w 264, 3) := by decide +kernel
theorem dX8_adjusts_221 : decode cX8_adjusts 221 = .ok (.lload 7, 2) := by decide +kernel
theorem dX8_adjusts_223 : decode cX8_adjusts 223 = .ok (.lmul, 1) := by decide +kernel
theorem dX8_adjusts_224 : decode cX8_adjusts 224 = .ok (.invokestatic 266, 3) := by decide +kernel
theorem dX8_adjusts_227 : decode cX8_adjusts 227 = .ok (.lstore 9, 2) := by decide +kernel
theorem dX8_adjusts_229 : decode cX8_adjusts 229 = .ok (.iload_n 3, 1) := by decide +kernel
theorem dX8_adjusts_230 : decode cX8_adjusts 230 = .ok (.lload 9, 2) := by decide +kernel
theorem dX8_adjusts_232 : decode cX8_adjusts 232 = .ok (.aload_n 0, 1) := by decide +kernel
theorem dX8_adjusts_233 : decode cX8_adjusts 233 = .ok (.getfield 260, 3) := by decide +kernel
theorem dX8_adjusts_236 : decode cX8_adjusts 236 = .ok (.iload 4, 2) := by decide +kernel
theorem dX8_adjusts_238 : decode cX8_adjusts 238 = .ok (.laload, 1) := by decide +kernel
theorem dX8_adjusts_239 : decode cX8_adjusts 239 = .ok (.lcmp, 1) := by decide +kernel
theorem dX8_adjusts_240 : decode cX8_adjusts 240 = .ok (.ifCond .ne 7, 3) := by decide +kernel
theorem dX8_adjusts_243 : decode cX8_adjusts 243 = .ok (.iconst 1, 1) := by decide +kernel
theorem dX8_adjusts_244 : decode cX8_adjusts 244 = .ok (.goto 4, 3) := by decide +kernel
theorem dX8_adjusts_247 : decode cX8_adjusts 247 = .ok (.iconst 0, 1) := by decide +kernel
theorem dX8_adjusts_248 : decode cX8_adjusts 248 = .ok (.iand, 1) := by decide +kernel
theorem dX8_adjusts_249 : decode cX8_adjusts 249 = .ok (.istore_n 3, 1) := by decide +kernel
theorem dX8_adjusts_250 : decode cX8_adjusts 250 = .ok (.aload_n 0, 1) := by decide +kernel
theorem dX8_adjusts_251 : decode cX8_adjusts 251 = .ok (.getfield 260, 3) := by decide +kernel
theorem dX8_adjusts_254 : decode cX8_adjusts 254 = .ok (.iload 4, 2) := by decide +kernel
theorem dX8_adjusts_256 : decode cX8_adjusts 256 = .ok (.lload 9, 2) := by decide +kernel
theorem dX8_adjusts_258 : decode cX8_adjusts 258 = .ok (.lastore, 1) := by decide +kernel
theorem dX8_adjusts_259 : decode cX8_adjusts 259 = .ok (.iinc 4 1, 3) := by decide +kernel
theorem dX8_adjusts_262 : decode cX8_adjusts 262 = .ok (.goto (-242), 3) := by decide +kernel
theorem dX8_adjusts_265 : decode cX8_adjusts 265 = .ok (.iload_n 3, 1) := by decide +kernel
theorem dX8_adjusts_266 : decode cX8_adjusts 266 = .ok (.ifCond .eq 5, 3) := by decide +kernel
theorem dX8_adjusts_269 : decode cX8_adjusts 269 = .ok (.iload_n 2, 1) := by decide +kernel
theorem dX8_adjusts_270 : decode cX8_adjusts 270 = .ok (.ireturn, 1) := by decide +kernel
theorem dX8_adjusts_271 : decode cX8_adjusts 271 = .ok (.iinc 2 1, 3) := by decide +kernel
theorem dX8_adjusts_274 : decode cX8_adjusts 274 = .ok (.goto (-264), 3) := by decide +kernel
theorem dX8_adjusts_277 : decode cX8_adjusts 277 = .ok (.iload_n 1, 1) := by decide +kernel
theorem dX8_adjusts_278 : decode cX8_adjusts 278 = .ok (.ireturn, 1) := by decide +kernel
def j_L_adjusts_192 (x1 : Int32) (x2 : Int32) (x3 : Int32) (x4 : Int32) (x7 : Int64) (x9 : Int32) (x10 : Int64) (y0 : Int64) (y1 : Int64) (y2 : Int64) (ν μ : gM) : Option ((Int64 × Int64 × Int32) ⊕ (Int64 × Int64)) :=
  some (.inl ((y0 + (y1 * y2)), (x7 + x10), (x9 + (1 : Int32))))
set_option maxHeartbeats 4000000 in
set_option maxRecDepth 100000 in
theorem wj_L_adjusts_192 {p : Program} {l : Launch} {e : Env} {s : State} {m : MethodId} {args : Array Value} {below : List Frame} {meth : Method} {c : Code} {D : va_G} {cy : Nat → ClassId} {ad : Nat → Nat} {b : Nat} {la : Nat → Nat → Nat} {ν : gM} {o0 : Nat} {x1 : Int32} {x2 : Int32} {x3 : Int32} {x4 : Int32} {x7 : Int64} {x9 : Int32} {x10 : Int64} {y0 : Int64} {y1 : Int64} {y2 : Int64} {μ : gM}  {o : (Int64 × Int64 × Int32) ⊕ (Int64 × Int64)} {RES : (Int32) × gM} {cells slots C0 S0 CM SM : Nat} (h : j_L_adjusts_192 x1 x2 x3 x4 x7 x9 x10 y0 y1 y2 ν μ = some o) (F : gF p s m meth c cX8_adjusts RX8 12 (some .int)) (E : hE l D cy ad b s) (hoo : la 0 0 = o0) (hc : cells + 0 ≤ C0) (hs : slots + 0 ≤ S0) (hcm : C0 ≤ CM) (hsm : S0 ≤ SM) (hcr : CM ≤ 6807) (hsr : SM ≤ 27244) (kc : ∀ (t : Int64 × Int64 × Int32) {H : Heap} {locs : List Loc} {ls : Array Slot}, o = .inl t → hV D cy ad la b μ ν [] H → va_S (hA b) s.heap H locs → lv_has ls 12 [(0, .ref (la 0 0)), (1, .int x1), (2, .int x2), (3, .int x3), (4, .int x4), (5, .long t.1), (7, .long t.2.1), (9, .int t.2.2)] → W p l e ({ frames := 5, cells := 6807, slots := 27244, locals := 120 } : Room) s m args below meth c H locs C0 S0 (MQ below (hQ b (fun rv H => ∃ la1 : Nat → Nat → Nat, rv = some (.int RES.1) ∧ hV D cy ad la1 b μ RES.2 [] H ∧ la1 0 0 = o0)) args s 6807 27244 (hA b)) (F0 m 65 ls [])) (kx : ∀ (t : Int64 × Int64) {H : Heap} {locs : List Loc} {ls : Array Slot}, o = .inr t → hV D cy ad la b μ ν [] H → va_S (hA b) s.heap H locs → lv_has ls 12 [(0, .ref (la 0 0)), (1, .int x1), (2, .int x2), (3, .int x3), (4, .int x4), (5, .long t.1), (7, .long t.2)] → W p l e ({ frames := 5, cells := 6807, slots := 27244, locals := 120 } : Room) s m args below meth c H locs CM SM (MQ below (hQ b (fun rv H => ∃ la1 : Nat → Nat → Nat, rv = some (.int RES.1) ∧ hV D cy ad la1 b μ RES.2 [] H ∧ la1 0 0 = o0)) args s 6807 27244 (hA b)) (F0 m 209 ls []))  {H : Heap} {locs : List Loc} {ls : Array Slot} (hM : hV D cy ad la b μ ν [] H) (hS : va_S (hA b) s.heap H locs) (hl : lv_has ls 12 [(0, .ref (la 0 0)), (1, .int x1), (2, .int x2), (3, .int x3), (4, .int x4), (7, .long x7), (9, .int x9), (10, .long x10)]) : W p l e ({ frames := 5, cells := 6807, slots := 27244, locals := 120 } : Room) s m args below meth c H locs cells slots (MQ below (hQ b (fun rv H => ∃ la1 : Nat → Nat → Nat, rv = some (.int RES.1) ∧ hV D cy ad la1 b μ RES.2 [] H ∧ la1 0 0 = o0)) args s 6807 27244 (hA b)) (F0 m 192 ls [.long y2, .long y1, .long y0]) := by
  obtain ⟨hx, hb, hml, hown, hlocks, hr⟩ := id F
  obtain ⟨hs, hf, hM⟩ := hM
  have hY := lY_self (cy := cy) (ad := ad) (la := la) hs hf
  unfold j_L_adjusts_192 at h
  refine lv_lmul hx hb dX8_adjusts_192 ?_
  refine lv_ladd hx hb dX8_adjusts_193 ?_
  refine lv_lstore (lv' := [(5, .long (y0 + (y1 * y2))), (0, .ref (la 0 0)), (1, .int x1), (2, .int x2), (3, .int x3), (4, .int x4), (7, .long x7), (9, .int x9), (10, .long x10)]) hx hb dX8_adjusts_194 hl (by decide) rfl (fun ls hl => ?_)
  refine lv_lload hx hb dX8_adjusts_196 (lv_at hl 6 rfl) ?_
  refine lv_lload hx hb dX8_adjusts_198 (lv_at hl 8 rfl) ?_
  refine lv_ladd hx hb dX8_adjusts_200 ?_
  refine lv_lstore (lv' := [(7, .long (x7 + x10)), (5, .long (y0 + (y1 * y2))), (0, .ref (la 0 0)), (1, .int x1), (2, .int x2), (3, .int x3), (4, .int x4), (9, .int x9), (10, .long x10)]) hx hb dX8_adjusts_201 hl (by decide) rfl (fun ls hl => ?_)
  refine lv_iinc (v := (x9 + (1 : Int32))) (lv' := [(9, .int (x9 + (1 : Int32))), (7, .long (x7 + x10)), (5, .long (y0 + (y1 * y2))), (0, .ref (la 0 0)), (1, .int x1), (2, .int x2), (3, .int x3), (4, .int x4), (10, .long x10)]) hx hb dX8_adjusts_203 hl (k := 7) rfl rfl (by decide) rfl (fun ls hl => ?_)
  refine lv_goto (tgt := 65) hx hb dX8_adjusts_206 (by decide) ?_
  refine W.widen (k := C0) (n := S0) (by omega) (by omega) ?_
  exact kc _ (Option.some.inj h).symm ⟨hs, hf, hM⟩ hS (lv_sub hl [3, 4, 5, 6, 7, 2, 1, 0] rfl)
def j_L_adjusts_115 (x1 : Int32) (x2 : Int32) (x3 : Int32) (x4 : Int32) (x5 : Int64) (x7 : Int64) (x9 : Int32) (ν μ : gM) : Option ((Int64 × Int64 × Int32) ⊕ (Int64 × Int64)) :=
  Option.bind (f_L_length x9 ν μ) (fun q18 => gchk (¬ q18 = 0) (gchk (gIn x9 (lLn ν)) (if ((gi ν (20 + x9.toNatClampNeg) 1) = x4) then gchk (¬ gi ν 0 10 = 0) (gchk (gIn x9 (lLn ν)) (gchk (gIn (gi ν (20 + x9.toNatClampNeg) 0) (lPt ν)) (Option.bind (f_L_rise x9 ν μ) (fun q31 => j_L_adjusts_192 x1 x2 x3 x4 x7 x9 (((1000000 : Int32) / q18).toInt64) x5 (((1000000 : Int32) / q18).toInt64) ((gl ν 9 (gi ν (20 + x9.toNatClampNeg) 0).toNatClampNeg) + q31.toInt64) ν μ)))) else gchk (¬ gi ν 0 10 = 0) (gchk (gIn x9 (lLn ν)) (gchk (gIn (gi ν (20 + x9.toNatClampNeg) 1) (lPt ν)) (Option.bind (f_L_rise x9 ν μ) (fun q26 => j_L_adjusts_192 x1 x2 x3 x4 x7 x9 (((1000000 : Int32) / q18).toInt64) x5 (((1000000 : Int32) / q18).toInt64) ((gl ν 9 (gi ν (20 + x9.toNatClampNeg) 1).toNatClampNeg) - q26.toInt64) ν μ)))))))
set_option maxHeartbeats 4000000 in
set_option maxRecDepth 100000 in
theorem wj_L_adjusts_115 {p : Program} {l : Launch} {e : Env} {s : State} {m : MethodId} {args : Array Value} {below : List Frame} {meth : Method} {c : Code} {D : va_G} {cy : Nat → ClassId} {ad : Nat → Nat} {b : Nat} {la : Nat → Nat → Nat} {ν : gM} {o0 : Nat} {x1 : Int32} {x2 : Int32} {x3 : Int32} {x4 : Int32} {x5 : Int64} {x7 : Int64} {x9 : Int32} {μ : gM}  {o : (Int64 × Int64 × Int32) ⊕ (Int64 × Int64)} {RES : (Int32) × gM} {cells slots C0 S0 CM SM : Nat} (h : j_L_adjusts_115 x1 x2 x3 x4 x5 x7 x9 ν μ = some o) (F : gF p s m meth c cX8_adjusts RX8 12 (some .int)) (E : hE l D cy ad b s) (hoo : la 0 0 = o0) (hc : cells + 2 ≤ C0) (hs : slots + 8 ≤ S0) (hcm : C0 ≤ CM) (hsm : S0 ≤ SM) (hcr : CM ≤ 6807) (hsr : SM ≤ 27244) (kc : ∀ (t : Int64 × Int64 × Int32) {H : Heap} {locs : List Loc} {ls : Array Slot}, o = .inl t → hV D cy ad la b μ ν [] H → va_S (hA b) s.heap H locs → lv_has ls 12 [(0, .ref (la 0 0)), (1, .int x1), (2, .int x2), (3, .int x3), (4, .int x4), (5, .long t.1), (7, .long t.2.1), (9, .int t.2.2)] → W p l e ({ frames := 5, cells := 6807, slots := 27244, locals := 120 } : Room) s m args below meth c H locs C0 S0 (MQ below (hQ b (fun rv H => ∃ la1 : Nat → Nat → Nat, rv = some (.int RES.1) ∧ hV D cy ad la1 b μ RES.2 [] H ∧ la1 0 0 = o0)) args s 6807 27244 (hA b)) (F0 m 65 ls [])) (kx : ∀ (t : Int64 × Int64) {H : Heap} {locs : List Loc} {ls : Array Slot}, o = .inr t → hV D cy ad la b μ ν [] H → va_S (hA b) s.heap H locs → lv_has ls 12 [(0, .ref (la 0 0)), (1, .int x1), (2, .int x2), (3, .int x3), (4, .int x4), (5, .long t.1), (7, .long t.2)] → W p l e ({ frames := 5, cells := 6807, slots := 27244, locals := 120 } : Room) s m args below meth c H locs CM SM (MQ below (hQ b (fun rv H => ∃ la1 : Nat → Nat → Nat, rv = some (.int RES.1) ∧ hV D cy ad la1 b μ RES.2 [] H ∧ la1 0 0 = o0)) args s 6807 27244 (hA b)) (F0 m 209 ls []))  {H : Heap} {locs : List Loc} {ls : Array Slot} (hM : hV D cy ad la b μ ν [] H) (hS : va_S (hA b) s.heap H locs) (hl : lv_has ls 12 [(0, .ref (la 0 0)), (1, .int x1), (2, .int x2), (3, .int x3), (4, .int x4), (5, .long x5), (7, .long x7), (9, .int x9)]) : W p l e ({ frames := 5, cells := 6807, slots := 27244, locals := 120 } : Room) s m args below meth c H locs cells slots (MQ below (hQ b (fun rv H => ∃ la1 : Nat → Nat → Nat, rv = some (.int RES.1) ∧ hV D cy ad la1 b μ RES.2 [] H ∧ la1 0 0 = o0)) args s 6807 27244 (hA b)) (F0 m 115 ls []) := by
  obtain ⟨hx, hb, hml, hown, hlocks, hr⟩ := id F
  obtain ⟨hs, hf, hM⟩ := hM
  have hY := lY_self (cy := cy) (ad := ad) (la := la) hs hf
  unfold j_L_adjusts_115 at h
  refine lv_ldc hx hb hown (v := (1000000 : Int32)) (E.kw kw_1211) dX8_adjusts_115 ?_
  refine lv_aload_n hx hb dX8_adjusts_117 rfl (lv_at hl 0 rfl) ?_
  refine lv_iload hx hb dX8_adjusts_118 (lv_at hl 7 rfl) ?_
  obtain ⟨q18, hq18, h⟩ := gbind_e h
  refine h_callV (As := [.int x9]) (rest := [.int (1000000 : Int32)]) hx hb (hml.trans hl.1.symm) hown E hM hS xy_X8_length kw_1207 (c_L_length hY hq18) (hp_m (hY.c1 0 rfl)) gC_X8.1 rfl rfl (Nat.le_of_ble_eq_true rfl) ⟨(Nat.le_of_ble_eq_true rfl), (Nat.le_of_ble_eq_true rfl)⟩ ⟨(show _ ≤ 6807 by omega), (show _ ≤ 27244 by omega)⟩ dX8_adjusts_120 (fun rv H locs hZ hS => ?_)
  obtain ⟨rfl, hM⟩ := hZ
  obtain ⟨c32, h⟩ := gchk_e h
  refine lv_idiv hx hb dX8_adjusts_123 c32 ?_
  refine lv_i2l (v := ((1000000 : Int32) / q18).toInt64) hx hb dX8_adjusts_124 rfl ?_
  refine lv_lstore (lv' := [(10, .long (((1000000 : Int32) / q18).toInt64)), (0, .ref (la 0 0)), (1, .int x1), (2, .int x2), (3, .int x3), (4, .int x4), (5, .long x5), (7, .long x7), (9, .int x9)]) hx hb dX8_adjusts_125 hl (by decide) rfl (fun ls hl => ?_)
  refine lv_lload hx hb dX8_adjusts_127 (lv_at hl 6 rfl) ?_
  refine lv_lload hx hb dX8_adjusts_129 (lv_at hl 0 rfl) ?_
  refine lv_aload_n hx hb dX8_adjusts_131 rfl (lv_at hl 1 rfl) ?_
  refine h_get hx hb hown E hM (hp_m (hY.c1 0 rfl)) gC_X8 5 (by decide) (v := .ref (la 3 0)) rfl kw_1029 dX8_adjusts_132 ?_
  refine lv_iload hx hb dX8_adjusts_135 (lv_at hl 8 rfl) ?_
  obtain ⟨c19, h⟩ := gchk_e h
  refine h_rald hx hb E hM (hp_m (hY.c1 3 rfl)) c19 (v := .ref (la 20 x9.toNatClampNeg)) (x_lrf c19) dX8_adjusts_137 ?_
  refine lv_iconst (v := (1 : Int32)) hx hb dX8_adjusts_138 (by decide) ?_
  refine l_iald hx hb E hM (hp_m (hY.c2 c19.2 0 rfl)) (⟨by decide, by decide⟩ : gIn (1 : Int32) 2) (v := (gi ν (20 + x9.toNatClampNeg) 1)) (congrArg (ν.1 (20 + x9.toNatClampNeg)) (by decide : (1 : Int32).toNatClampNeg = 1)) dX8_adjusts_139 ?_
  refine lv_iload hx hb dX8_adjusts_140 (lv_at hl 5 rfl) ?_
  refine lv_icmp_ne (tgt := 170) hx hb dX8_adjusts_142 (by decide) (fun c21 => ?_) (fun c21 => ?_)
  · replace h := gif_f c21 h
    refine lv_aload_n hx hb dX8_adjusts_170 rfl (lv_at hl 1 rfl) ?_
    obtain ⟨c22, h⟩ := gchk_e h
    refine h_get hx hb hown E hM (hp_m (hY.c1 0 rfl)) gC_X8 10 (by decide) (v := .ref (la 9 0)) (by rw [← lHv_a c22]; rfl) kw_1034 dX8_adjusts_171 ?_
    refine lv_aload_n hx hb dX8_adjusts_174 rfl (lv_at hl 1 rfl) ?_
    refine h_get hx hb hown E hM (hp_m (hY.c1 0 rfl)) gC_X8 5 (by decide) (v := .ref (la 3 0)) rfl kw_1029 dX8_adjusts_175 ?_
    refine lv_iload hx hb dX8_adjusts_178 (lv_at hl 8 rfl) ?_
    obtain ⟨c23, h⟩ := gchk_e h
    refine h_rald hx hb E hM (hp_m (hY.c1 3 rfl)) c23 (v := .ref (la 20 x9.toNatClampNeg)) (x_lrf c23) dX8_adjusts_180 ?_
    refine lv_iconst (v := (1 : Int32)) hx hb dX8_adjusts_181 (by decide) ?_
    refine l_iald hx hb E hM (hp_m (hY.c2 c23.2 0 rfl)) (⟨by decide, by decide⟩ : gIn (1 : Int32) 2) (v := (gi ν (20 + x9.toNatClampNeg) 1)) (congrArg (ν.1 (20 + x9.toNatClampNeg)) (by decide : (1 : Int32).toNatClampNeg = 1)) dX8_adjusts_182 ?_
    obtain ⟨c25, h⟩ := gchk_e h
    refine l_lald hx hb E hM (hp_m (hY.c4 c22)) c25 (v := (gl ν 9 (gi ν (20 + x9.toNatClampNeg) 1).toNatClampNeg)) rfl dX8_adjusts_183 ?_
    refine lv_aload_n hx hb dX8_adjusts_184 rfl (lv_at hl 1 rfl) ?_
    refine lv_iload hx hb dX8_adjusts_185 (lv_at hl 8 rfl) ?_
    obtain ⟨q26, hq26, h⟩ := gbind_e h
    refine h_callV (As := [.int x9]) (rest := [.long (gl ν 9 (gi ν (20 + x9.toNatClampNeg) 1).toNatClampNeg), .long (((1000000 : Int32) / q18).toInt64), .long x5]) hx hb (hml.trans hl.1.symm) hown E hM hS xy_X8_rise kw_1146 (c_L_rise hY hq26) (hp_m (hY.c1 0 rfl)) gC_X8.1 rfl rfl (Nat.le_of_ble_eq_true rfl) ⟨(Nat.le_of_ble_eq_true rfl), (Nat.le_of_ble_eq_true rfl)⟩ ⟨(show _ ≤ 6807 by omega), (show _ ≤ 27244 by omega)⟩ dX8_adjusts_187 (fun rv H locs hZ hS => ?_)
    obtain ⟨rfl, hM⟩ := hZ
    refine lv_i2l (v := q26.toInt64) hx hb dX8_adjusts_190 rfl ?_
    refine lv_lsub hx hb dX8_adjusts_191 ?_
    exact wj_L_adjusts_192 h F E hoo (by omega) (by omega) hcm hsm hcr hsr kc kx ⟨hs, hf, hM⟩ hS (lv_sub hl [1, 2, 3, 4, 5, 7, 8, 0] rfl)
  · replace h := gif_t c21 h
    refine lv_aload_n hx hb dX8_adjusts_145 rfl (lv_at hl 1 rfl) ?_
    obtain ⟨c27, h⟩ := gchk_e h
    refine h_get hx hb hown E hM (hp_m (hY.c1 0 rfl)) gC_X8 10 (by decide) (v := .ref (la 9 0)) (by rw [← lHv_a c27]; rfl) kw_1034 dX8_adjusts_146 ?_
    refine lv_aload_n hx hb dX8_adjusts_149 rfl (lv_at hl 1 rfl) ?_
    refine h_get hx hb hown E hM (hp_m (hY.c1 0 rfl)) gC_X8 5 (by decide) (v := .ref (la 3 0)) rfl kw_1029 dX8_adjusts_150 ?_
    refine lv_iload hx hb dX8_adjusts_153 (lv_at hl 8 rfl) ?_
    obtain ⟨c28, h⟩ := gchk_e h
    refine h_rald hx hb E hM (hp_m (hY.c1 3 rfl)) c28 (v := .ref (la 20 x9.toNatClampNeg)) (x_lrf c28) dX8_adjusts_155 ?_
    refine lv_iconst (v := (0 : Int32)) hx hb dX8_adjusts_156 (by decide) ?_
    refine l_iald hx hb E hM (hp_m (hY.c2 c28.2 0 rfl)) (⟨by decide, by decide⟩ : gIn (0 : Int32) 2) (v := (gi ν (20 + x9.toNatClampNeg) 0)) (congrArg (ν.1 (20 + x9.toNatClampNeg)) (by decide : (0 : Int32).toNatClampNeg = 0)) dX8_adjusts_157 ?_
    obtain ⟨c30, h⟩ := gchk_e h
    refine l_lald hx hb E hM (hp_m (hY.c4 c27)) c30 (v := (gl ν 9 (gi ν (20 + x9.toNatClampNeg) 0).toNatClampNeg)) rfl dX8_adjusts_158 ?_
    refine lv_aload_n hx hb dX8_adjusts_159 rfl (lv_at hl 1 rfl) ?_
    refine lv_iload hx hb dX8_adjusts_160 (lv_at hl 8 rfl) ?_
    obtain ⟨q31, hq31, h⟩ := gbind_e h
    refine h_callV (As := [.int x9]) (rest := [.long (gl ν 9 (gi ν (20 + x9.toNatClampNeg) 0).toNatClampNeg), .long (((1000000 : Int32) / q18).toInt64), .long x5]) hx hb (hml.trans hl.1.symm) hown E hM hS xy_X8_rise kw_1146 (c_L_rise hY hq31) (hp_m (hY.c1 0 rfl)) gC_X8.1 rfl rfl (Nat.le_of_ble_eq_true rfl) ⟨(Nat.le_of_ble_eq_true rfl), (Nat.le_of_ble_eq_true rfl)⟩ ⟨(show _ ≤ 6807 by omega), (show _ ≤ 27244 by omega)⟩ dX8_adjusts_162 (fun rv H locs hZ hS => ?_)
    obtain ⟨rfl, hM⟩ := hZ
    refine lv_i2l (v := q31.toInt64) hx hb dX8_adjusts_165 rfl ?_
    refine lv_ladd hx hb dX8_adjusts_166 ?_
    refine lv_goto (tgt := 192) hx hb dX8_adjusts_167 (by decide) ?_
    exact wj_L_adjusts_192 h F E hoo (by omega) (by omega) hcm hsm hcr hsr kc kx ⟨hs, hf, hM⟩ hS (lv_sub hl [1, 2, 3, 4, 5, 7, 8, 0] rfl)
def b_L_adjusts_65 (x1 : Int32) (x2 : Int32) (x3 : Int32) (x4 : Int32) (x5 : Int64) (x7 : Int64) (x9 : Int32) (ν μ : gM) : Option ((Int64 × Int64 × Int32) ⊕ (Int64 × Int64)) :=
  if ((gi ν 0 2) ≤ x9) then some (.inr (x5, x7)) else gchk (gIn x9 (lLn ν)) (if ((gi ν 5 x9.toNatClampNeg) = 0) then some (.inl (x5, x7, (x9 + (1 : Int32)))) else gchk (gIn x9 (lLn ν)) (if ((gi ν (20 + x9.toNatClampNeg) 0) = x4) then j_L_adjusts_115 x1 x2 x3 x4 x5 x7 x9 ν μ else gchk (gIn x9 (lLn ν)) (if ((gi ν (20 + x9.toNatClampNeg) 1) = x4) then j_L_adjusts_115 x1 x2 x3 x4 x5 x7 x9 ν μ else some (.inl (x5, x7, (x9 + (1 : Int32)))))))
set_option maxHeartbeats 4000000 in
set_option maxRecDepth 100000 in
theorem wb_L_adjusts_65 {p : Program} {l : Launch} {e : Env} {s : State} {m : MethodId} {args : Array Value} {below : List Frame} {meth : Method} {c : Code} {D : va_G} {cy : Nat → ClassId} {ad : Nat → Nat} {b : Nat} {la : Nat → Nat → Nat} {ν : gM} {o0 : Nat} {x1 : Int32} {x2 : Int32} {x3 : Int32} {x4 : Int32} {x5 : Int64} {x7 : Int64} {x9 : Int32} {μ : gM}  {o : (Int64 × Int64 × Int32) ⊕ (Int64 × Int64)} {RES : (Int32) × gM} {cells slots C0 S0 CM SM : Nat} (h : b_L_adjusts_65 x1 x2 x3 x4 x5 x7 x9 ν μ = some o) (F : gF p s m meth c cX8_adjusts RX8 12 (some .int)) (E : hE l D cy ad b s) (hoo : la 0 0 = o0) (hc : cells + 2 ≤ C0) (hs : slots + 8 ≤ S0) (hcm : C0 ≤ CM) (hsm : S0 ≤ SM) (hcr : CM ≤ 6807) (hsr : SM ≤ 27244) (kc : ∀ (t : Int64 × Int64 × Int32) {H : Heap} {locs : List Loc} {ls : Array Slot}, o = .inl t → hV D cy ad la b μ ν [] H → va_S (hA b) s.heap H locs → lv_has ls 12 [(0, .ref (la 0 0)), (1, .int x1), (2, .int x2), (3, .int x3), (4, .int x4), (5, .long t.1), (7, .long t.2.1), (9, .int t.2.2)] → W p l e ({ frames := 5, cells := 6807, slots := 27244, locals := 120 } : Room) s m args below meth c H locs C0 S0 (MQ below (hQ b (fun rv H => ∃ la1 : Nat → Nat → Nat, rv = some (.int RES.1) ∧ hV D cy ad la1 b μ RES.2 [] H ∧ la1 0 0 = o0)) args s 6807 27244 (hA b)) (F0 m 65 ls [])) (kx : ∀ (t : Int64 × Int64) {H : Heap} {locs : List Loc} {ls : Array Slot}, o = .inr t → hV D cy ad la b μ ν [] H → va_S (hA b) s.heap H locs → lv_has ls 12 [(0, .ref (la 0 0)), (1, .int x1), (2, .int x2), (3, .int x3), (4, .int x4), (5, .long t.1), (7, .long t.2)] → W p l e ({ frames := 5, cells := 6807, slots := 27244, locals := 120 } : Room) s m args below meth c H locs CM SM (MQ below (hQ b (fun rv H => ∃ la1 : Nat → Nat → Nat, rv = some (.int RES.1) ∧ hV D cy ad la1 b μ RES.2 [] H ∧ la1 0 0 = o0)) args s 6807 27244 (hA b)) (F0 m 209 ls []))  {H : Heap} {locs : List Loc} {ls : Array Slot} (hM : hV D cy ad la b μ ν [] H) (hS : va_S (hA b) s.heap H locs) (hl : lv_has ls 12 [(0, .ref (la 0 0)), (1, .int x1), (2, .int x2), (3, .int x3), (4, .int x4), (5, .long x5), (7, .long x7), (9, .int x9)]) : W p l e ({ frames := 5, cells := 6807, slots := 27244, locals := 120 } : Room) s m args below meth c H locs cells slots (MQ below (hQ b (fun rv H => ∃ la1 : Nat → Nat → Nat, rv = some (.int RES.1) ∧ hV D cy ad la1 b μ RES.2 [] H ∧ la1 0 0 = o0)) args s 6807 27244 (hA b)) (F0 m 65 ls []) := by
  obtain ⟨hx, hb, hml, hown, hlocks, hr⟩ := id F
  obtain ⟨hs, hf, hM⟩ := hM
  have hY := lY_self (cy := cy) (ad := ad) (la := la) hs hf
  unfold b_L_adjusts_65 at h
  refine lv_iload hx hb dX8_adjusts_65 (lv_at hl 7 rfl) ?_
  refine lv_aload_n hx hb dX8_adjusts_67 rfl (lv_at hl 0 rfl) ?_
  refine h_get hx hb hown E hM (hp_m (hY.c1 0 rfl)) gC_X8 2 (by decide) (v := .int (gi ν 0 2)) rfl kw_1026 dX8_adjusts_68 ?_
  refine lv_icmp_ge (tgt := 209) hx hb dX8_adjusts_71 (by decide) (fun c12 => ?_) (fun c12 => ?_)
  · replace h := gif_t c12 h
    refine W.widen (k := CM) (n := SM) (by omega) (by omega) ?_
    exact kx _ (Option.some.inj h).symm ⟨hs, hf, hM⟩ hS (lv_sub hl [0, 1, 2, 3, 4, 5, 6] rfl)
  · replace h := gif_f c12 h
    refine lv_aload_n hx hb dX8_adjusts_74 rfl (lv_at hl 0 rfl) ?_
    refine h_get hx hb hown E hM (hp_m (hY.c1 0 rfl)) gC_X8 7 (by decide) (v := .ref (la 5 0)) rfl kw_1031 dX8_adjusts_75 ?_
    refine lv_iload hx hb dX8_adjusts_78 (lv_at hl 7 rfl) ?_
    obtain ⟨c13, h⟩ := gchk_e h
    refine l_zald hx hb E hM (hp_m (hY.c1 5 rfl)) c13 (v := (gi ν 5 x9.toNatClampNeg)) rfl dX8_adjusts_80 ?_
    refine lv_if_eq (tgt := 203) hx hb dX8_adjusts_81 (by decide) (fun c14 => ?_) (fun c14 => ?_)
    · replace h := gif_t c14 h
      refine lv_iinc (v := (x9 + (1 : Int32))) (lv' := [(9, .int (x9 + (1 : Int32))), (0, .ref (la 0 0)), (1, .int x1), (2, .int x2), (3, .int x3), (4, .int x4), (5, .long x5), (7, .long x7)]) hx hb dX8_adjusts_203 hl (k := 7) rfl rfl (by decide) rfl (fun ls hl => ?_)
      refine lv_goto (tgt := 65) hx hb dX8_adjusts_206 (by decide) ?_
      refine W.widen (k := C0) (n := S0) (by omega) (by omega) ?_
      exact kc _ (Option.some.inj h).symm ⟨hs, hf, hM⟩ hS (lv_sub hl [1, 2, 3, 4, 5, 6, 7, 0] rfl)
    · replace h := gif_f c14 h
      refine lv_aload_n hx hb dX8_adjusts_84 rfl (lv_at hl 0 rfl) ?_
      refine h_get hx hb hown E hM (hp_m (hY.c1 0 rfl)) gC_X8 5 (by decide) (v := .ref (la 3 0)) rfl kw_1029 dX8_adjusts_85 ?_
      refine lv_iload hx hb dX8_adjusts_88 (lv_at hl 7 rfl) ?_
      obtain ⟨c15, h⟩ := gchk_e h
      refine h_rald hx hb E hM (hp_m (hY.c1 3 rfl)) c15 (v := .ref (la 20 x9.toNatClampNeg)) (x_lrf c15) dX8_adjusts_90 ?_
      refine lv_iconst (v := (0 : Int32)) hx hb dX8_adjusts_91 (by decide) ?_
      refine l_iald hx hb E hM (hp_m (hY.c2 c15.2 0 rfl)) (⟨by decide, by decide⟩ : gIn (0 : Int32) 2) (v := (gi ν (20 + x9.toNatClampNeg) 0)) (congrArg (ν.1 (20 + x9.toNatClampNeg)) (by decide : (0 : Int32).toNatClampNeg = 0)) dX8_adjusts_92 ?_
      refine lv_iload hx hb dX8_adjusts_93 (lv_at hl 4 rfl) ?_
      refine lv_icmp_eq (tgt := 115) hx hb dX8_adjusts_95 (by decide) (fun c17 => ?_) (fun c17 => ?_)
      · replace h := gif_t c17 h
        exact wj_L_adjusts_115 h F E hoo (by omega) (by omega) hcm hsm hcr hsr kc kx ⟨hs, hf, hM⟩ hS hl
      · replace h := gif_f c17 h
        refine lv_aload_n hx hb dX8_adjusts_98 rfl (lv_at hl 0 rfl) ?_
        refine h_get hx hb hown E hM (hp_m (hY.c1 0 rfl)) gC_X8 5 (by decide) (v := .ref (la 3 0)) rfl kw_1029 dX8_adjusts_99 ?_
        refine lv_iload hx hb dX8_adjusts_102 (lv_at hl 7 rfl) ?_
        obtain ⟨c33, h⟩ := gchk_e h
        refine h_rald hx hb E hM (hp_m (hY.c1 3 rfl)) c33 (v := .ref (la 20 x9.toNatClampNeg)) (x_lrf c33) dX8_adjusts_104 ?_
        refine lv_iconst (v := (1 : Int32)) hx hb dX8_adjusts_105 (by decide) ?_
        refine l_iald hx hb E hM (hp_m (hY.c2 c33.2 0 rfl)) (⟨by decide, by decide⟩ : gIn (1 : Int32) 2) (v := (gi ν (20 + x9.toNatClampNeg) 1)) (congrArg (ν.1 (20 + x9.toNatClampNeg)) (by decide : (1 : Int32).toNatClampNeg = 1)) dX8_adjusts_106 ?_
        refine lv_iload hx hb dX8_adjusts_107 (lv_at hl 4 rfl) ?_
        refine lv_icmp_eq (tgt := 115) hx hb dX8_adjusts_109 (by decide) (fun c35 => ?_) (fun c35 => ?_)
        · replace h := gif_t c35 h
          exact wj_L_adjusts_115 h F E hoo (by omega) (by omega) hcm hsm hcr hsr kc kx ⟨hs, hf, hM⟩ hS hl
        · replace h := gif_f c35 h
          refine lv_goto (tgt := 203) hx hb dX8_adjusts_112 (by decide) ?_
          refine lv_iinc (v := (x9 + (1 : Int32))) (lv' := [(9, .int (x9 + (1 : Int32))), (0, .ref (la 0 0)), (1, .int x1), (2, .int x2), (3, .int x3), (4, .int x4), (5, .long x5), (7, .long x7)]) hx hb dX8_adjusts_203 hl (k := 7) rfl rfl (by decide) rfl (fun ls hl => ?_)
          refine lv_goto (tgt := 65) hx hb dX8_adjusts_206 (by decide) ?_
          refine W.widen (k := C0) (n := S0) (by omega) (by omega) ?_
          exact kc _ (Option.some.inj h).symm ⟨hs, hf, hM⟩ hS (lv_sub hl [1, 2, 3, 4, 5, 6, 7, 0] rfl)
set_option maxHeartbeats 4000000 in
theorem wl_L_adjusts_65 {p : Program} {l : Launch} {e : Env} {s : State} {m : MethodId} {args : Array Value} {below : List Frame} {meth : Method} {c : Code} {D : va_G} {cy : Nat → ClassId} {ad : Nat → Nat} {b : Nat} {la : Nat → Nat → Nat} {ν : gM} {o0 : Nat} {x1 : Int32} {x2 : Int32} {x3 : Int32} {x4 : Int32}  {μ : gM}  {r : Int64 × Int64} {RES : (Int32) × gM} {CM SM : Nat} (F : gF p s m meth c cX8_adjusts RX8 12 (some .int)) (E : hE l D cy ad b s) (hoo : la 0 0 = o0) (hcr : CM ≤ 6807) (hsr : SM ≤ 27244) (kx : ∀ (t : Int64 × Int64) {H : Heap} {locs : List Loc} {ls : Array Slot}, r = t → hV D cy ad la b μ ν [] H → va_S (hA b) s.heap H locs → lv_has ls 12 [(0, .ref (la 0 0)), (1, .int x1), (2, .int x2), (3, .int x3), (4, .int x4), (5, .long t.1), (7, .long t.2)] → W p l e ({ frames := 5, cells := 6807, slots := 27244, locals := 120 } : Room) s m args below meth c H locs CM SM (MQ below (hQ b (fun rv H => ∃ la1 : Nat → Nat → Nat, rv = some (.int RES.1) ∧ hV D cy ad la1 b μ RES.2 [] H ∧ la1 0 0 = o0)) args s 6807 27244 (hA b)) (F0 m 209 ls []))  : ∀ (n : Nat) (x5 : Int64) (x7 : Int64) (x9 : Int32)  {cells slots : Nat}, cells + n * 2 ≤ CM → slots + n * 8 ≤ SM → gloop (fun t => b_L_adjusts_65 x1 x2 x3 x4 t.1 t.2.1 t.2.2 ν μ) n (x5, x7, x9) = some r → ∀ {H : Heap} {locs : List Loc} {ls : Array Slot}, hV D cy ad la b μ ν [] H → va_S (hA b) s.heap H locs → lv_has ls 12 [(0, .ref (la 0 0)), (1, .int x1), (2, .int x2), (3, .int x3), (4, .int x4), (5, .long x5), (7, .long x7), (9, .int x9)] → W p l e ({ frames := 5, cells := 6807, slots := 27244, locals := 120 } : Room) s m args below meth c H locs cells slots (MQ below (hQ b (fun rv H => ∃ la1 : Nat → Nat → Nat, rv = some (.int RES.1) ∧ hV D cy ad la1 b μ RES.2 [] H ∧ la1 0 0 = o0)) args s 6807 27244 (hA b)) (F0 m 65 ls []) := by
  intro n
  induction n with
  | zero =>
    intro x5 x7 x9 cells slots hc hs h
    exact (gloop_0 h).elim
  | succ n ih =>
    intro x5 x7 x9 cells slots hc hs h H locs ls hM hS hl
    obtain ⟨o, h0, hcc, hq⟩ := gloop_s h
    have h1 : b_L_adjusts_65 x1 x2 x3 x4 x5 x7 x9 ν μ = some o := h0
    exact wb_L_adjusts_65 (C0 := cells + 2) (S0 := slots + 8) (CM := CM) (SM := SM) h1 F E hoo (by omega) (by omega) (by omega) (by omega) hcr hsr (fun t H locs ls ho hM hS hl => ih t.1 t.2.1 t.2.2 (by omega) (by omega) (hcc t ho) hM hS hl) (fun t H locs ls ho hM hS hl => kx t (hq _ ho).symm hM hS hl) hM hS hl
def j_L_adjusts_248 (x1 : Int32) (x2 : Int32) (x4 : Int32) (x9 : Int64) (y0 : Int32) (y1 : Int32) (ν μ : gM) : Option ((Int32 × Int32 × gM) ⊕ (Int32 × gM)) :=
  gchk (¬ gi ν 0 10 = 0) (gchk (gIn x4 (lPt ν)) (Option.bind (some (sl ν 9 x4.toNatClampNeg x9)) (fun ν43 => some (.inl ((y0 &&& y1), (x4 + (1 : Int32)), ν43)))))
set_option maxHeartbeats 4000000 in
set_option maxRecDepth 100000 in
theorem wj_L_adjusts_248 {p : Program} {l : Launch} {e : Env} {s : State} {m : MethodId} {args : Array Value} {below : List Frame} {meth : Method} {c : Code} {D : va_G} {cy : Nat → ClassId} {ad : Nat → Nat} {b : Nat} {la : Nat → Nat → Nat} {ν : gM} {o0 : Nat} {x1 : Int32} {x2 : Int32} {x4 : Int32} {x9 : Int64} {y0 : Int32} {y1 : Int32} {μ : gM}  {o : (Int32 × Int32 × gM) ⊕ (Int32 × gM)} {RES : (Int32) × gM} {cells slots C0 S0 CM SM : Nat} (h : j_L_adjusts_248 x1 x2 x4 x9 y0 y1 ν μ = some o) (F : gF p s m meth c cX8_adjusts RX8 12 (some .int)) (E : hE l D cy ad b s) (hoo : la 0 0 = o0) (hc : cells + 0 ≤ C0) (hs : slots + 0 ≤ S0) (hcm : C0 ≤ CM) (hsm : S0 ≤ SM) (hcr : CM ≤ 6807) (hsr : SM ≤ 27244) (kc : ∀ (t : Int32 × Int32 × gM) {H : Heap} {locs : List Loc} {ls : Array Slot}, o = .inl t → hV D cy ad la b μ t.2.2 [] H → va_S (hA b) s.heap H locs → lv_has ls 12 [(0, .ref (la 0 0)), (1, .int x1), (2, .int x2), (3, .int t.1), (4, .int t.2.1)] → W p l e ({ frames := 5, cells := 6807, slots := 27244, locals := 120 } : Room) s m args below meth c H locs C0 S0 (MQ below (hQ b (fun rv H => ∃ la1 : Nat → Nat → Nat, rv = some (.int RES.1) ∧ hV D cy ad la1 b μ RES.2 [] H ∧ la1 0 0 = o0)) args s 6807 27244 (hA b)) (F0 m 20 ls [])) (kx : ∀ (t : Int32 × gM) {H : Heap} {locs : List Loc} {ls : Array Slot}, o = .inr t → hV D cy ad la b μ t.2 [] H → va_S (hA b) s.heap H locs → lv_has ls 12 [(0, .ref (la 0 0)), (1, .int x1), (2, .int x2), (3, .int t.1)] → W p l e ({ frames := 5, cells := 6807, slots := 27244, locals := 120 } : Room) s m args below meth c H locs CM SM (MQ below (hQ b (fun rv H => ∃ la1 : Nat → Nat → Nat, rv = some (.int RES.1) ∧ hV D cy ad la1 b μ RES.2 [] H ∧ la1 0 0 = o0)) args s 6807 27244 (hA b)) (F0 m 265 ls []))  {H : Heap} {locs : List Loc} {ls : Array Slot} (hM : hV D cy ad la b μ ν [] H) (hS : va_S (hA b) s.heap H locs) (hl : lv_has ls 12 [(0, .ref (la 0 0)), (1, .int x1), (2, .int x2), (4, .int x4), (9, .long x9)]) : W p l e ({ frames := 5, cells := 6807, slots := 27244, locals := 120 } : Room) s m args below meth c H locs cells slots (MQ below (hQ b (fun rv H => ∃ la1 : Nat → Nat → Nat, rv = some (.int RES.1) ∧ hV D cy ad la1 b μ RES.2 [] H ∧ la1 0 0 = o0)) args s 6807 27244 (hA b)) (F0 m 248 ls [.int y1, .int y0]) := by
  obtain ⟨hx, hb, hml, hown, hlocks, hr⟩ := id F
  obtain ⟨hs, hf, hM⟩ := hM
  have hY := lY_self (cy := cy) (ad := ad) (la := la) hs hf
  unfold j_L_adjusts_248 at h
  refine lv_iand hx hb dX8_adjusts_248 ?_
  refine lv_istore_n (lv' := [(3, .int (y0 &&& y1)), (0, .ref (la 0 0)), (1, .int x1), (2, .int x2), (4, .int x4), (9, .long x9)]) hx hb dX8_adjusts_249 rfl hl (by decide) rfl (fun ls hl => ?_)
  refine lv_aload_n hx hb dX8_adjusts_250 rfl (lv_at hl 1 rfl) ?_
  obtain ⟨c41, h⟩ := gchk_e h
  refine h_get hx hb hown E hM (hp_m (hY.c1 0 rfl)) gC_X8 10 (by decide) (v := .ref (la 9 0)) (by rw [← lHv_a c41]; rfl) kw_1034 dX8_adjusts_251 ?_
  refine lv_iload hx hb dX8_adjusts_254 (lv_at hl 4 rfl) ?_
  refine lv_lload hx hb dX8_adjusts_256 (lv_at hl 5 rfl) ?_
  obtain ⟨c42, h⟩ := gchk_e h
  refine lw_last hx hb E hs hM hS c41 c42 dX8_adjusts_258 (fun H locs hM hS => ?_)
  obtain ⟨ν43, hν43, h⟩ := gupd h
  rw [← hν43] at hM
  replace hf : lF ν43 := by rw [hν43]; exact (sl_F (by unfold okid; omega) hs hf)
  replace hs : lS ν43 := by rw [hν43]; exact (sl_S (by unfold okid; omega) hs)
  have hY := lY_self (cy := cy) (ad := ad) (la := la) hs hf
  refine lv_iinc (v := (x4 + (1 : Int32))) (lv' := [(4, .int (x4 + (1 : Int32))), (3, .int (y0 &&& y1)), (0, .ref (la 0 0)), (1, .int x1), (2, .int x2), (9, .long x9)]) hx hb dX8_adjusts_259 hl (k := 4) rfl rfl (by decide) rfl (fun ls hl => ?_)
  refine lv_goto (tgt := 20) hx hb dX8_adjusts_262 (by decide) ?_
  refine W.widen (k := C0) (n := S0) (by omega) (by omega) ?_
  exact kc _ (Option.some.inj h).symm ⟨hs, hf, hM⟩ hS (lv_sub hl [2, 3, 4, 1, 0] rfl)
def b_L_adjusts_20 (x1 : Int32) (x2 : Int32) (x3 : Int32) (x4 : Int32) (ν μ : gM) : Option ((Int32 × Int32 × gM) ⊕ (Int32 × gM)) :=
  if ((gi ν 0 1) ≤ x4) then some (.inr (x3, ν)) else gchk (¬ gi ν 0 10 = 0) (gchk (gIn x4 (lPt ν)) (if ((gl ν 9 x4.toNatClampNeg) = (-9223372036854775808 : Int64)) then some (.inl (x3, (x4 + (1 : Int32)), ν)) else gchk (gIn x4 16) (if ((gi ν 2 x4.toNatClampNeg) < 0) then Option.bind (gloop (fun t => b_L_adjusts_65 x1 x2 x3 x4 t.1 t.2.1 t.2.2 ν μ) 12 ((0 : Int64), (0 : Int64), (0 : Int32))) (fun q36 => Option.bind (f_J9_floorDiv_f86c9 (((2 : Int64) * q36.1) + q36.2) ((2 : Int64) * q36.2) μ) (fun q37 => gchk (¬ gi ν 0 10 = 0) (gchk (gIn x4 (lPt ν)) (if (q37 = (gl ν 9 x4.toNatClampNeg)) then j_L_adjusts_248 x1 x2 x4 q37 x3 (1 : Int32) ν μ else j_L_adjusts_248 x1 x2 x4 q37 x3 (0 : Int32) ν μ)))) else some (.inl (x3, (x4 + (1 : Int32)), ν)))))
set_option maxHeartbeats 4000000 in
set_option maxRecDepth 100000 in
theorem wb_L_adjusts_20 {p : Program} {l : Launch} {e : Env} {s : State} {m : MethodId} {args : Array Value} {below : List Frame} {meth : Method} {c : Code} {D : va_G} {cy : Nat → ClassId} {ad : Nat → Nat} {b : Nat} {la : Nat → Nat → Nat} {ν : gM} {o0 : Nat} {x1 : Int32} {x2 : Int32} {x3 : Int32} {x4 : Int32} {μ : gM}  {o : (Int32 × Int32 × gM) ⊕ (Int32 × gM)} {RES : (Int32) × gM} {cells slots C0 S0 CM SM : Nat} (h : b_L_adjusts_20 x1 x2 x3 x4 ν μ = some o) (F : gF p s m meth c cX8_adjusts RX8 12 (some .int)) (E : hE l D cy ad b s) (hoo : la 0 0 = o0) (hc : cells + 24 ≤ C0) (hs : slots + 96 ≤ S0) (hcm : C0 ≤ CM) (hsm : S0 ≤ SM) (hcr : CM ≤ 6807) (hsr : SM ≤ 27244) (kc : ∀ (t : Int32 × Int32 × gM) {H : Heap} {locs : List Loc} {ls : Array Slot}, o = .inl t → hV D cy ad la b μ t.2.2 [] H → va_S (hA b) s.heap H locs → lv_has ls 12 [(0, .ref (la 0 0)), (1, .int x1), (2, .int x2), (3, .int t.1), (4, .int t.2.1)] → W p l e ({ frames := 5, cells := 6807, slots := 27244, locals := 120 } : Room) s m args below meth c H locs C0 S0 (MQ below (hQ b (fun rv H => ∃ la1 : Nat → Nat → Nat, rv = some (.int RES.1) ∧ hV D cy ad la1 b μ RES.2 [] H ∧ la1 0 0 = o0)) args s 6807 27244 (hA b)) (F0 m 20 ls [])) (kx : ∀ (t : Int32 × gM) {H : Heap} {locs : List Loc} {ls : Array Slot}, o = .inr t → hV D cy ad la b μ t.2 [] H → va_S (hA b) s.heap H locs → lv_has ls 12 [(0, .ref (la 0 0)), (1, .int x1), (2, .int x2), (3, .int t.1)] → W p l e ({ frames := 5, cells := 6807, slots := 27244, locals := 120 } : Room) s m args below meth c H locs CM SM (MQ below (hQ b (fun rv H => ∃ la1 : Nat → Nat → Nat, rv = some (.int RES.1) ∧ hV D cy ad la1 b μ RES.2 [] H ∧ la1 0 0 = o0)) args s 6807 27244 (hA b)) (F0 m 265 ls []))  {H : Heap} {locs : List Loc} {ls : Array Slot} (hM : hV D cy ad la b μ ν [] H) (hS : va_S (hA b) s.heap H locs) (hl : lv_has ls 12 [(0, .ref (la 0 0)), (1, .int x1), (2, .int x2), (3, .int x3), (4, .int x4)]) : W p l e ({ frames := 5, cells := 6807, slots := 27244, locals := 120 } : Room) s m args below meth c H locs cells slots (MQ below (hQ b (fun rv H => ∃ la1 : Nat → Nat → Nat, rv = some (.int RES.1) ∧ hV D cy ad la1 b μ RES.2 [] H ∧ la1 0 0 = o0)) args s 6807 27244 (hA b)) (F0 m 20 ls []) := by
  obtain ⟨hx, hb, hml, hown, hlocks, hr⟩ := id F
  obtain ⟨hs, hf, hM⟩ := hM
  have hY := lY_self (cy := cy) (ad := ad) (la := la) hs hf
  unfold b_L_adjusts_20 at h
  refine lv_iload hx hb dX8_adjusts_20 (lv_at hl 4 rfl) ?_
  refine lv_aload_n hx hb dX8_adjusts_22 rfl (lv_at hl 0 rfl) ?_
  refine h_get hx hb hown E hM (hp_m (hY.c1 0 rfl)) gC_X8 1 (by decide) (v := .int (gi ν 0 1)) rfl kw_1025 dX8_adjusts_23 ?_
  refine lv_icmp_ge (tgt := 265) hx hb dX8_adjusts_26 (by decide) (fun c6 => ?_) (fun c6 => ?_)
  · replace h := gif_t c6 h
    refine W.widen (k := CM) (n := SM) (by omega) (by omega) ?_
    exact kx _ (Option.some.inj h).symm ⟨hs, hf, hM⟩ hS (lv_sub hl [0, 1, 2, 3] rfl)
  · replace h := gif_f c6 h
    refine lv_aload_n hx hb dX8_adjusts_29 rfl (lv_at hl 0 rfl) ?_
    obtain ⟨c7, h⟩ := gchk_e h
    refine h_get hx hb hown E hM (hp_m (hY.c1 0 rfl)) gC_X8 10 (by decide) (v := .ref (la 9 0)) (by rw [← lHv_a c7]; rfl) kw_1034 dX8_adjusts_30 ?_
    refine lv_iload hx hb dX8_adjusts_33 (lv_at hl 4 rfl) ?_
    obtain ⟨c8, h⟩ := gchk_e h
    refine l_lald hx hb E hM (hp_m (hY.c4 c7)) c8 (v := (gl ν 9 x4.toNatClampNeg)) rfl dX8_adjusts_35 ?_
    refine lv_ldc2 hx hb hown (v := (-9223372036854775808 : Int64)) (E.kw kw_1406) dX8_adjusts_36 ?_
    refine W.lcmp hx hb dX8_adjusts_39 ?_
    refine lv_if_eq (tgt := 259) hx hb dX8_adjusts_40 (by decide) (fun c9 => ?_) (fun c9 => ?_)
    · replace c9 := (lg_cmp_eq _ _).mp c9
      replace h := gif_t c9 h
      refine lv_iinc (v := (x4 + (1 : Int32))) (lv' := [(4, .int (x4 + (1 : Int32))), (0, .ref (la 0 0)), (1, .int x1), (2, .int x2), (3, .int x3)]) hx hb dX8_adjusts_259 hl (k := 4) rfl rfl (by decide) rfl (fun ls hl => ?_)
      refine lv_goto (tgt := 20) hx hb dX8_adjusts_262 (by decide) ?_
      refine W.widen (k := C0) (n := S0) (by omega) (by omega) ?_
      exact kc _ (Option.some.inj h).symm ⟨hs, hf, hM⟩ hS (lv_sub hl [1, 2, 3, 4, 0] rfl)
    · replace c9 := fun w => c9 ((lg_cmp_eq _ _).mpr w)
      replace h := gif_f c9 h
      refine lv_aload_n hx hb dX8_adjusts_43 rfl (lv_at hl 0 rfl) ?_
      refine h_get hx hb hown E hM (hp_m (hY.c1 0 rfl)) gC_X8 4 (by decide) (v := .ref (la 2 0)) rfl kw_1028 dX8_adjusts_44 ?_
      refine lv_iload hx hb dX8_adjusts_47 (lv_at hl 4 rfl) ?_
      obtain ⟨c10, h⟩ := gchk_e h
      refine l_iald hx hb E hM (hp_m (hY.c1 2 rfl)) c10 (v := (gi ν 2 x4.toNatClampNeg)) rfl dX8_adjusts_49 ?_
      refine lv_if_lt (tgt := 56) hx hb dX8_adjusts_50 (by decide) (fun c11 => ?_) (fun c11 => ?_)
      · replace h := gif_t c11 h
        refine lv_lconst (v := (0 : Int64)) hx hb dX8_adjusts_56 (by decide) ?_
        refine lv_lstore (lv' := [(5, .long (0 : Int64)), (0, .ref (la 0 0)), (1, .int x1), (2, .int x2), (3, .int x3), (4, .int x4)]) hx hb dX8_adjusts_57 hl (by decide) rfl (fun ls hl => ?_)
        refine lv_lconst (v := (0 : Int64)) hx hb dX8_adjusts_59 (by decide) ?_
        refine lv_lstore (lv' := [(7, .long (0 : Int64)), (5, .long (0 : Int64)), (0, .ref (la 0 0)), (1, .int x1), (2, .int x2), (3, .int x3), (4, .int x4)]) hx hb dX8_adjusts_60 hl (by decide) rfl (fun ls hl => ?_)
        refine lv_iconst (v := (0 : Int32)) hx hb dX8_adjusts_62 (by decide) ?_
        refine lv_istore (lv' := [(9, .int (0 : Int32)), (7, .long (0 : Int64)), (5, .long (0 : Int64)), (0, .ref (la 0 0)), (1, .int x1), (2, .int x2), (3, .int x3), (4, .int x4)]) hx hb dX8_adjusts_63 hl (by decide) rfl (fun ls hl => ?_)
        obtain ⟨z44, h1, h⟩ := gbind_e h
        refine wl_L_adjusts_65 (CM := cells + 24) (SM := slots + 96) F E hoo (by omega) (by omega) (r := z44) (fun q36 H locs ls e1 hM hS hl => ?_) 12 (0 : Int64) (0 : Int64) (0 : Int32) (by omega) (by omega) h1 ⟨hs, hf, hM⟩ hS (lv_sub hl [3, 4, 5, 6, 7, 2, 1, 0] rfl)
        replace e1 : z44 = q36 := e1
        rw [e1] at h
        obtain ⟨hs, hf, hM⟩ := hM
        have hY := lY_self (cy := cy) (ad := ad) (la := la) hs hf
        refine lv_ldc2 hx hb hown (v := (2 : Int64)) (E.kw kw_1548) dX8_adjusts_209 ?_
        refine lv_lload hx hb dX8_adjusts_212 (lv_at hl 5 rfl) ?_
        refine lv_lmul hx hb dX8_adjusts_214 ?_
        refine lv_lload hx hb dX8_adjusts_215 (lv_at hl 6 rfl) ?_
        refine lv_ladd hx hb dX8_adjusts_217 ?_
        refine lv_ldc2 hx hb hown (v := (2 : Int64)) (E.kw kw_1548) dX8_adjusts_218 ?_
        refine lv_lload hx hb dX8_adjusts_221 (lv_at hl 6 rfl) ?_
        refine lv_lmul hx hb dX8_adjusts_223 ?_
        obtain ⟨q37, hq37, h⟩ := gbind_e h
        refine h_callSC (As := [.long (((2 : Int64) * q36.1) + q36.2), .long ((2 : Int64) * q36.2)]) (rest := []) hx hb (hml.trans hl.1.symm) hown E hM hS hy_J9_floorDiv_f86c9 kw_1549 (c_J9_floorDiv_f86c9 hq37) rfl rfl (Nat.le_of_ble_eq_true rfl) ⟨(Nat.le_of_ble_eq_true rfl), (Nat.le_of_ble_eq_true rfl)⟩ ⟨(show _ ≤ 6807 by omega), (show _ ≤ 27244 by omega)⟩ dX8_adjusts_224 (fun H locs hM hS => ?_)
        refine lv_lstore (lv' := [(9, .long q37), (0, .ref (la 0 0)), (1, .int x1), (2, .int x2), (3, .int x3), (4, .int x4), (5, .long q36.1), (7, .long q36.2)]) hx hb dX8_adjusts_227 hl (by decide) rfl (fun ls hl => ?_)
        refine lv_iload_n hx hb dX8_adjusts_229 rfl (lv_at hl 4 rfl) ?_
        refine lv_lload hx hb dX8_adjusts_230 (lv_at hl 0 rfl) ?_
        refine lv_aload_n hx hb dX8_adjusts_232 rfl (lv_at hl 1 rfl) ?_
        obtain ⟨c38, h⟩ := gchk_e h
        refine h_get hx hb hown E hM (hp_m (hY.c1 0 rfl)) gC_X8 10 (by decide) (v := .ref (la 9 0)) (by rw [← lHv_a c38]; rfl) kw_1034 dX8_adjusts_233 ?_
        refine lv_iload hx hb dX8_adjusts_236 (lv_at hl 5 rfl) ?_
        obtain ⟨c39, h⟩ := gchk_e h
        refine l_lald hx hb E hM (hp_m (hY.c4 c38)) c39 (v := (gl ν 9 x4.toNatClampNeg)) rfl dX8_adjusts_238 ?_
        refine W.lcmp hx hb dX8_adjusts_239 ?_
        refine lv_if_ne (tgt := 247) hx hb dX8_adjusts_240 (by decide) (fun c40 => ?_) (fun c40 => ?_)
        · replace c40 := fun w => c40 ((lg_cmp_eq _ _).mpr w)
          replace h := gif_f c40 h
          refine lv_iconst (v := (0 : Int32)) hx hb dX8_adjusts_247 (by decide) ?_
          exact wj_L_adjusts_248 h F E hoo (by omega) (by omega) hcm hsm hcr hsr kc kx ⟨hs, hf, hM⟩ hS (lv_sub hl [1, 2, 3, 5, 0] rfl)
        · replace c40 := (lg_cmp_eq _ _).mp c40
          replace h := gif_t c40 h
          refine lv_iconst (v := (1 : Int32)) hx hb dX8_adjusts_243 (by decide) ?_
          refine lv_goto (tgt := 248) hx hb dX8_adjusts_244 (by decide) ?_
          exact wj_L_adjusts_248 h F E hoo (by omega) (by omega) hcm hsm hcr hsr kc kx ⟨hs, hf, hM⟩ hS (lv_sub hl [1, 2, 3, 5, 0] rfl)
      · replace h := gif_f c11 h
        refine lv_goto (tgt := 259) hx hb dX8_adjusts_53 (by decide) ?_
        refine lv_iinc (v := (x4 + (1 : Int32))) (lv' := [(4, .int (x4 + (1 : Int32))), (0, .ref (la 0 0)), (1, .int x1), (2, .int x2), (3, .int x3)]) hx hb dX8_adjusts_259 hl (k := 4) rfl rfl (by decide) rfl (fun ls hl => ?_)
        refine lv_goto (tgt := 20) hx hb dX8_adjusts_262 (by decide) ?_
        refine W.widen (k := C0) (n := S0) (by omega) (by omega) ?_
        exact kc _ (Option.some.inj h).symm ⟨hs, hf, hM⟩ hS (lv_sub hl [1, 2, 3, 4, 0] rfl)
set_option maxHeartbeats 4000000 in
theorem wl_L_adjusts_20 {p : Program} {l : Launch} {e : Env} {s : State} {m : MethodId} {args : Array Value} {below : List Frame} {meth : Method} {c : Code} {D : va_G} {cy : Nat → ClassId} {ad : Nat → Nat} {b : Nat} {la : Nat → Nat → Nat} {o0 : Nat} {x1 : Int32} {x2 : Int32}  {μ : gM}  {r : Int32 × gM} {RES : (Int32) × gM} {CM SM : Nat} (F : gF p s m meth c cX8_adjusts RX8 12 (some .int)) (E : hE l D cy ad b s) (hoo : la 0 0 = o0) (hcr : CM ≤ 6807) (hsr : SM ≤ 27244) (kx : ∀ (t : Int32 × gM) {H : Heap} {locs : List Loc} {ls : Array Slot}, r = t → hV D cy ad la b μ t.2 [] H → va_S (hA b) s.heap H locs → lv_has ls 12 [(0, .ref (la 0 0)), (1, .int x1), (2, .int x2), (3, .int t.1)] → W p l e ({ frames := 5, cells := 6807, slots := 27244, locals := 120 } : Room) s m args below meth c H locs CM SM (MQ below (hQ b (fun rv H => ∃ la1 : Nat → Nat → Nat, rv = some (.int RES.1) ∧ hV D cy ad la1 b μ RES.2 [] H ∧ la1 0 0 = o0)) args s 6807 27244 (hA b)) (F0 m 265 ls []))  : ∀ (n : Nat) (x3 : Int32) (x4 : Int32)  (ν : gM) {cells slots : Nat}, cells + n * 24 ≤ CM → slots + n * 96 ≤ SM → gloop (fun t => b_L_adjusts_20 x1 x2 t.1 t.2.1 t.2.2 μ) n (x3, x4, ν) = some r → ∀ {H : Heap} {locs : List Loc} {ls : Array Slot}, hV D cy ad la b μ ν [] H → va_S (hA b) s.heap H locs → lv_has ls 12 [(0, .ref (la 0 0)), (1, .int x1), (2, .int x2), (3, .int x3), (4, .int x4)] → W p l e ({ frames := 5, cells := 6807, slots := 27244, locals := 120 } : Room) s m args below meth c H locs cells slots (MQ below (hQ b (fun rv H => ∃ la1 : Nat → Nat → Nat, rv = some (.int RES.1) ∧ hV D cy ad la1 b μ RES.2 [] H ∧ la1 0 0 = o0)) args s 6807 27244 (hA b)) (F0 m 20 ls []) := by
  intro n
  induction n with
  | zero =>
    intro x3 x4 ν cells slots hc hs h
    exact (gloop_0 h).elim
  | succ n ih =>
    intro x3 x4 ν cells slots hc hs h H locs ls hM hS hl
    obtain ⟨o, h0, hcc, hq⟩ := gloop_s h
    have h1 : b_L_adjusts_20 x1 x2 x3 x4 ν μ = some o := h0
    exact wb_L_adjusts_20 (C0 := cells + 24) (S0 := slots + 96) (CM := CM) (SM := SM) h1 F E hoo (by omega) (by omega) (by omega) (by omega) hcr hsr (fun t H locs ls ho hM hS hl => ih t.1 t.2.1 t.2.2 (by omega) (by omega) (hcc t ho) hM hS hl) (fun t H locs ls ho hM hS hl => kx t (hq _ ho).symm hM hS hl) hM hS hl
def b_L_adjusts_10 (x1 : Int32) (x2 : Int32) (ν μ : gM) : Option ((Int32 × gM) ⊕ ((gM) ⊕ ((Int32) × gM))) :=
  if (x1 < x2) then some (.inr (.inl ν)) else Option.bind (gloop (fun t => b_L_adjusts_20 x1 x2 t.1 t.2.1 t.2.2 μ) 9 ((1 : Int32), (0 : Int32), ν)) (fun q45 => if (q45.1 = 0) then some (.inl ((x2 + (1 : Int32)), q45.2)) else some (.inr (.inr (x2, q45.2))))
set_option maxHeartbeats 4000000 in
set_option maxRecDepth 100000 in
theorem wb_L_adjusts_10 {p : Program} {l : Launch} {e : Env} {s : State} {m : MethodId} {args : Array Value} {below : List Frame} {meth : Method} {c : Code} {D : va_G} {cy : Nat → ClassId} {ad : Nat → Nat} {b : Nat} {la : Nat → Nat → Nat} {ν : gM} {o0 : Nat} {x1 : Int32} {x2 : Int32} {μ : gM}  {o : (Int32 × gM) ⊕ ((gM) ⊕ ((Int32) × gM))} {RES : (Int32) × gM} {cells slots C0 S0 CM SM : Nat} (h : b_L_adjusts_10 x1 x2 ν μ = some o) (F : gF p s m meth c cX8_adjusts RX8 12 (some .int)) (E : hE l D cy ad b s) (hoo : la 0 0 = o0) (hc : cells + 216 ≤ C0) (hs : slots + 864 ≤ S0) (hcm : C0 ≤ CM) (hsm : S0 ≤ SM) (hcr : CM ≤ 6807) (hsr : SM ≤ 27244) (kc : ∀ (t : Int32 × gM) {H : Heap} {locs : List Loc} {ls : Array Slot}, o = .inl t → hV D cy ad la b μ t.2 [] H → va_S (hA b) s.heap H locs → lv_has ls 12 [(0, .ref (la 0 0)), (1, .int x1), (2, .int t.1)] → W p l e ({ frames := 5, cells := 6807, slots := 27244, locals := 120 } : Room) s m args below meth c H locs C0 S0 (MQ below (hQ b (fun rv H => ∃ la1 : Nat → Nat → Nat, rv = some (.int RES.1) ∧ hV D cy ad la1 b μ RES.2 [] H ∧ la1 0 0 = o0)) args s 6807 27244 (hA b)) (F0 m 10 ls [])) (kx : ∀ (t : gM) {H : Heap} {locs : List Loc} {ls : Array Slot}, o = .inr (.inl t) → hV D cy ad la b μ t [] H → va_S (hA b) s.heap H locs → lv_has ls 12 [(1, .int x1)] → W p l e ({ frames := 5, cells := 6807, slots := 27244, locals := 120 } : Room) s m args below meth c H locs CM SM (MQ below (hQ b (fun rv H => ∃ la1 : Nat → Nat → Nat, rv = some (.int RES.1) ∧ hV D cy ad la1 b μ RES.2 [] H ∧ la1 0 0 = o0)) args s 6807 27244 (hA b)) (F0 m 277 ls [])) (kr : ∀ x : (Int32) × gM, o = .inr (.inr x) → x = RES) {H : Heap} {locs : List Loc} {ls : Array Slot} (hM : hV D cy ad la b μ ν [] H) (hS : va_S (hA b) s.heap H locs) (hl : lv_has ls 12 [(0, .ref (la 0 0)), (1, .int x1), (2, .int x2)]) : W p l e ({ frames := 5, cells := 6807, slots := 27244, locals := 120 } : Room) s m args below meth c H locs cells slots (MQ below (hQ b (fun rv H => ∃ la1 : Nat → Nat → Nat, rv = some (.int RES.1) ∧ hV D cy ad la1 b μ RES.2 [] H ∧ la1 0 0 = o0)) args s 6807 27244 (hA b)) (F0 m 10 ls []) := by
  obtain ⟨hx, hb, hml, hown, hlocks, hr⟩ := id F
  obtain ⟨hs, hf, hM⟩ := hM
  have hY := lY_self (cy := cy) (ad := ad) (la := la) hs hf
  unfold b_L_adjusts_10 at h
  refine lv_iload_n hx hb dX8_adjusts_10 rfl (lv_at hl 2 rfl) ?_
  refine lv_iload_n hx hb dX8_adjusts_11 rfl (lv_at hl 1 rfl) ?_
  refine lv_icmp_gt (tgt := 277) hx hb dX8_adjusts_12 (by decide) (fun c5 => ?_) (fun c5 => ?_)
  · replace h := gif_t c5 h
    refine W.widen (k := CM) (n := SM) (by omega) (by omega) ?_
    exact kx _ (Option.some.inj h).symm ⟨hs, hf, hM⟩ hS (lv_sub hl [1] rfl)
  · replace h := gif_f c5 h
    refine lv_iconst (v := (1 : Int32)) hx hb dX8_adjusts_15 (by decide) ?_
    refine lv_istore_n (lv' := [(3, .int (1 : Int32)), (0, .ref (la 0 0)), (1, .int x1), (2, .int x2)]) hx hb dX8_adjusts_16 rfl hl (by decide) rfl (fun ls hl => ?_)
    refine lv_iconst (v := (0 : Int32)) hx hb dX8_adjusts_17 (by decide) ?_
    refine lv_istore (lv' := [(4, .int (0 : Int32)), (3, .int (1 : Int32)), (0, .ref (la 0 0)), (1, .int x1), (2, .int x2)]) hx hb dX8_adjusts_18 hl (by decide) rfl (fun ls hl => ?_)
    obtain ⟨z47, h1, h⟩ := gbind_e h
    refine wl_L_adjusts_20 (CM := cells + 216) (SM := slots + 864) F E hoo (by omega) (by omega) (r := z47) (fun q45 H locs ls e1 hM hS hl => ?_) 9 (1 : Int32) (0 : Int32) (ν) (by omega) (by omega) h1 ⟨hs, hf, hM⟩ hS (lv_sub hl [2, 3, 4, 1, 0] rfl)
    replace e1 : z47 = q45 := e1
    rw [e1] at h
    obtain ⟨hs, hf, hM⟩ := hM
    have hY := lY_self (cy := cy) (ad := ad) (la := la) hs hf
    refine lv_iload_n hx hb dX8_adjusts_265 rfl (lv_at hl 3 rfl) ?_
    refine lv_if_eq (tgt := 271) hx hb dX8_adjusts_266 (by decide) (fun c46 => ?_) (fun c46 => ?_)
    · replace h := gif_t c46 h
      refine lv_iinc (v := (x2 + (1 : Int32))) (lv' := [(2, .int (x2 + (1 : Int32))), (0, .ref (la 0 0)), (1, .int x1), (3, .int q45.1)]) hx hb dX8_adjusts_271 hl (k := 2) rfl rfl (by decide) rfl (fun ls hl => ?_)
      refine lv_goto (tgt := 10) hx hb dX8_adjusts_274 (by decide) ?_
      refine W.widen (k := C0) (n := S0) (by omega) (by omega) ?_
      exact kc _ (Option.some.inj h).symm ⟨hs, hf, hM⟩ hS (lv_sub hl [1, 2, 0] rfl)
    · replace h := gif_f c46 h
      refine lv_iload_n hx hb dX8_adjusts_269 rfl (lv_at hl 2 rfl) ?_
      obtain rfl := kr _ (Option.some.inj h).symm
      exact h_iret hx hb hr hlocks (by omega) (by omega) ⟨_, rfl, ⟨hs, hf, hW.drop hM⟩, hoo⟩ hS dX8_adjusts_270
set_option maxHeartbeats 4000000 in
theorem wl_L_adjusts_10 {p : Program} {l : Launch} {e : Env} {s : State} {m : MethodId} {args : Array Value} {below : List Frame} {meth : Method} {c : Code} {D : va_G} {cy : Nat → ClassId} {ad : Nat → Nat} {b : Nat} {la : Nat → Nat → Nat} {o0 : Nat} {x1 : Int32}  {μ : gM}  {r : (gM) ⊕ ((Int32) × gM)} {RES : (Int32) × gM} {CM SM : Nat} (F : gF p s m meth c cX8_adjusts RX8 12 (some .int)) (E : hE l D cy ad b s) (hoo : la 0 0 = o0) (hcr : CM ≤ 6807) (hsr : SM ≤ 27244) (kx : ∀ (t : gM) {H : Heap} {locs : List Loc} {ls : Array Slot}, r = .inl t → hV D cy ad la b μ t [] H → va_S (hA b) s.heap H locs → lv_has ls 12 [(1, .int x1)] → W p l e ({ frames := 5, cells := 6807, slots := 27244, locals := 120 } : Room) s m args below meth c H locs CM SM (MQ below (hQ b (fun rv H => ∃ la1 : Nat → Nat → Nat, rv = some (.int RES.1) ∧ hV D cy ad la1 b μ RES.2 [] H ∧ la1 0 0 = o0)) args s 6807 27244 (hA b)) (F0 m 277 ls [])) (kr : ∀ x : (Int32) × gM, r = .inr x → x = RES) : ∀ (n : Nat) (x2 : Int32)  (ν : gM) {cells slots : Nat}, cells + n * 216 ≤ CM → slots + n * 864 ≤ SM → gloop (fun t => b_L_adjusts_10 x1 t.1 t.2 μ) n (x2, ν) = some r → ∀ {H : Heap} {locs : List Loc} {ls : Array Slot}, hV D cy ad la b μ ν [] H → va_S (hA b) s.heap H locs → lv_has ls 12 [(0, .ref (la 0 0)), (1, .int x1), (2, .int x2)] → W p l e ({ frames := 5, cells := 6807, slots := 27244, locals := 120 } : Room) s m args below meth c H locs cells slots (MQ below (hQ b (fun rv H => ∃ la1 : Nat → Nat → Nat, rv = some (.int RES.1) ∧ hV D cy ad la1 b μ RES.2 [] H ∧ la1 0 0 = o0)) args s 6807 27244 (hA b)) (F0 m 10 ls []) := by
  intro n
  induction n with
  | zero =>
    intro x2 ν cells slots hc hs h
    exact (gloop_0 h).elim
  | succ n ih =>
    intro x2 ν cells slots hc hs h H locs ls hM hS hl
    obtain ⟨o, h0, hcc, hq⟩ := gloop_s h
    have h1 : b_L_adjusts_10 x1 x2 ν μ = some o := h0
    exact wb_L_adjusts_10 (C0 := cells + 216) (S0 := slots + 864) (CM := CM) (SM := SM) h1 F E hoo (by omega) (by omega) (by omega) (by omega) hcr hsr (fun t H locs ls ho hM hS hl => ih t.1 t.2 (by omega) (by omega) (hcc t ho) hM hS hl) (fun t H locs ls ho hM hS hl => kx t (hq _ ho).symm hM hS hl) (fun x ho => kr x (hq _ ho).symm) hM hS hl
def f_L_adjusts (p1 : Int32) (ν μ : gM) : Option ((Int32) × gM) :=
  Option.bind (f_L_provisional  ν μ) (fun q1 => Option.bind (some (sll (si ν 0 10 1) 9 q1)) (fun ν3 => Option.bind (gloop (fun t => b_L_adjusts_10 p1 t.1 t.2 μ) 31 ((1 : Int32), ν3)) (fun q48 => Sum.elim (fun t49 => some (p1, t49)) (fun x => some x) q48)))
set_option maxHeartbeats 4000000 in
set_option maxRecDepth 100000 in
theorem c_L_adjusts {l : Launch} {D : va_G} {cy : Nat → ClassId} {ad : Nat → Nat} {b : Nat} {la : Nat → Nat → Nat} {μ ν : gM} {p1 : Int32} {RES : (Int32) × gM} (hs : lS ν) (hf : lF ν) (h : f_L_adjusts p1 ν μ = some RES) : Met l yX8_adjusts [.code yX8_adjusts cX8_adjusts 12 (some .int)] ({ frames := 5, cells := 6807, slots := 27244, locals := 120 } : Room) (va_Pc [.ref (la 0 0), .int p1] (hB l D cy ad b μ (lws cy ad la ν) [])) (hQ b (fun rv H => ∃ la1 : Nat → Nat → Nat, rv = some (.int RES.1) ∧ hV D cy ad la1 b μ RES.2 [] H ∧ la1 0 0 = (la 0 0))) 6807 27244 (hA b) := by
  refine Met.ofW (cc := cX8_adjusts) (maxL := 12) (ret := (some .int)) (by decide +kernel) rfl ?_
  intro p e s m args below meth c s₁ B hml0 hv
  obtain ⟨rfl, E, hM⟩ := hv
  have hY := lY_self (cy := cy) (ad := ad) (la := la) hs hf
  have hoo : la 0 0 = la 0 0 := rfl
  have F : gF p s m meth c cX8_adjusts RX8 12 (some .int) := gF_of B hml0
  obtain ⟨hx, hb, hml, hown, hlocks, hr⟩ := id F
  have hS : va_S (hA b) s.heap s.heap [] := va_S.rf
  have hl := lv_entry ([.ref (la 0 0), .int p1]) (n := 12) (Nat.le_of_ble_eq_true rfl)
  rw [lg_entry_eq]
  generalize (lg_sl ([.ref (la 0 0), .int p1]) ++ List.replicate (12 - (lg_sl ([.ref (la 0 0), .int p1])).length) Slot.unset).toArray = ls at hl ⊢
  have hl : lv_has ls 12 [(0, .ref (la 0 0)), (1, .int p1)] := hl
  unfold f_L_adjusts at h
  refine lv_aload_n hx hb dX8_adjusts_0 rfl (lv_at hl 0 rfl) ?_
  refine lv_aload_n hx hb dX8_adjusts_1 rfl (lv_at hl 0 rfl) ?_
  obtain ⟨q1, hq1, h⟩ := gbind_e h
  refine h_callV (As := []) (rest := [.ref (la 0 0)]) hx hb (hml.trans hl.1.symm) hown E hM hS xy_X8_provisional kw_1385 (c_L_provisional hY hq1) (hp_m (hY.c1 0 rfl)) gC_X8.1 rfl rfl (Nat.le_of_ble_eq_true rfl) ⟨(Nat.le_of_ble_eq_true rfl), (Nat.le_of_ble_eq_true rfl)⟩ ⟨(show _ ≤ 6807 by omega), (show _ ≤ 27244 by omega)⟩ dX8_adjusts_2 (fun rv H locs hZ hS => ?_)
  obtain ⟨a2, rfl, hM⟩ := hZ
  refine lw_hset hx hb hown E hM hS kw_1034 dX8_adjusts_5 (fun H locs hM hS => ?_)
  obtain ⟨ν3, hν3, h⟩ := gupd h
  rw [← hν3] at hM
  replace hf : lF ν3 := by rw [hν3]; exact (lAgH.F lAgH_s hf)
  replace hs : lS ν3 := by rw [hν3]; exact (lAgH.S lAgH_s hs)
  obtain ⟨la4, hla4⟩ : ∃ x, x = lset la 9 0 a2 := ⟨_, rfl⟩
  rw [← hla4] at hM
  have ho1 : la4 0 0 = la 0 0 := by rw [hla4, lset_ne (by omega)]
  replace hoo := ho1.trans hoo
  rw [← ho1] at hl
  have hY := lY_self (cy := cy) (ad := ad) (la := la4) hs hf
  refine lv_iconst (v := (1 : Int32)) hx hb dX8_adjusts_8 (by decide) ?_
  refine lv_istore_n (lv' := [(2, .int (1 : Int32)), (0, .ref (la4 0 0)), (1, .int p1)]) hx hb dX8_adjusts_9 rfl hl (by decide) rfl (fun ls hl => ?_)
  obtain ⟨q48, h1, h⟩ := gbind_e h
  refine wl_L_adjusts_10 (CM := 6807) (SM := 27244) F E hoo (by omega) (by omega) (r := q48) (fun t49 H locs ls e1 hM hS hl => ?_) (fun x ex => ?_) 31 (1 : Int32) (ν3) (by omega) (by omega) h1 ⟨hs, hf, hM⟩ hS (lv_sub hl [1, 2, 0] rfl)
  · replace h := gsum_l e1 h
    obtain ⟨hs, hf, hM⟩ := hM
    have hY := lY_self (cy := cy) (ad := ad) (la := la4) hs hf
    refine lv_iload_n hx hb dX8_adjusts_277 rfl (lv_at hl 0 rfl) ?_
    obtain rfl := Option.some.inj h
    exact h_iret hx hb hr hlocks (by omega) (by omega) ⟨_, rfl, ⟨hs, hf, hW.drop hM⟩, hoo⟩ hS dX8_adjusts_278
  · exact Option.some.inj (gsum_r ex h)

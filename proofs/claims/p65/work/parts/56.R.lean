theorem xi_X10_init : gYI yX10_init cX10_init 1 0 := ⟨kw_1393, kw_80, kw_1392, ⟨by decide +kernel, by decide +kernel⟩, by decide +kernel, rfl⟩
theorem xs_J6_valueOf_2dffe : gYS yJ6_valueOf_2dffe cJ6_valueOf_2dffe 1 (some (.object "java/lang/Integer")) 1 := ⟨kw_1410, kw_73, kw_1409, ⟨by decide +kernel, by decide +kernel⟩, by decide +kernel⟩
theorem xy_X10_addLast : gYV yX10_addLast cX10_addLast 3 none 1 := ⟨kw_1431, kw_80, kw_1429, kw_1430, ⟨by decide +kernel, by decide +kernel⟩, by decide +kernel⟩
theorem xy_X10_isEmpty : gYV yX10_isEmpty cX10_isEmpty 1 (some .boolean) 0 := ⟨kw_1450, kw_80, kw_1448, kw_1449, ⟨by decide +kernel, by decide +kernel⟩, by decide +kernel⟩
theorem xy_X10_pollFirst : gYV yX10_pollFirst cX10_pollFirst 4 (some (.object "java/lang/Object")) 0 := ⟨kw_1454, kw_80, kw_1452, kw_1453, ⟨by decide +kernel, by decide +kernel⟩, by decide +kernel⟩
theorem xy_J6_intValue_8abf5 : gYV yJ6_intValue_8abf5 cJ6_intValue_8abf5 1 (some .int) 0 := ⟨kw_1462, kw_73, kw_1460, kw_1461, ⟨by decide +kernel, by decide +kernel⟩, by decide +kernel⟩
theorem dX8_provisional_0 : decode cX8_provisional 0 = .ok (.aload_n 0, 1) := by decide +kernel
theorem dX8_provisional_1 : decode cX8_provisional 1 = .ok (.getfield 43, 3) := by decide +kernel
theorem dX8_provisional_4 : decode cX8_provisional 4 = .ok (.newarray .long, 2) := by decide +kernel
theorem dX8_provisional_6 : decode cX8_provisional 6 = .ok (.astore_n 1, 1) := by decide +kernel
theorem dX8_provisional_7 : decode cX8_provisional 7 = .ok (.new 232, 3) := by decide +kernel
theorem dX8_provisional_10 : decode cX8_provisional 10 = .ok (.dup, 1) := by decide +kernel
theorem dX8_provisional_11 : decode cX8_provisional 11 = .ok (.invokespecial 234, 3) := by decide +kernel
theorem dX8_provisional_14 : decode cX8_provisional 14 = .ok (.astore_n 2, 1) := by decide +kernel
theorem dX8_provisional_15 : decode cX8_provisional 15 = .ok (.iconst 0, 1) := by decide +kernel
theorem dX8_provisional_16 : decode cX8_provisional 16 = .ok (.istore_n 3, 1) := by decide +kernel
theorem dX8_provisional_17 : decode cX8_provisional 17 = .ok (.iload_n 3, 1) := by decide +kernel
theorem dX8_provisional_18 : decode cX8_provisional 18 = .ok (.aload_n 0, 1) := by decide +kernel
theorem dX8_provisional_19 : decode cX8_provisional 19 = .ok (.getfield 43, 3) := by decide +kernel
theorem dX8_provisional_22 : decode cX8_provisional 22 = .ok (.if_icmp .ge 55, 3) := by decide +kernel
theorem dX8_provisional_25 : decode cX8_provisional 25 = .ok (.aload_n 1, 1) := by decide +kernel
theorem dX8_provisional_26 : decode cX8_provisional 26 = .ok (.iload_n 3, 1) := by decide +kernel
theorem dX8_provisional_27 : decode cX8_provisional 27 = .ok (.aload_n 0, 1) := by decide +kernel
theorem dX8_provisional_28 : decode cX8_provisional 28 = .ok (.getfield 22, 3) := by decide +kernel
theorem dX8_provisional_31 : decode cX8_provisional 31 = .ok (.iload_n 3, 1) := by decide +kernel
theorem dX8_provisional_32 : decode cX8_provisional 32 = .ok (.iaload, 1) := by decide +kernel
theorem dX8_provisional_33 : decode cX8_provisional 33 = .ok (.ifCond .ge 9, 3) := by decide +kernel
theorem dX8_provisional_36 : decode cX8_provisional 36 = .ok (.ldc2_w 235, 3) := by decide +kernel
theorem dX8_provisional_39 : decode cX8_provisional 39 = .ok (.goto 14, 3) := by decide +kernel
theorem dX8_provisional_42 : decode cX8_provisional 42 = .ok (.ldc2_w 237, 3) := by decide +kernel
theorem dX8_provisional_45 : decode cX8_provisional 45 = .ok (.aload_n 0, 1) := by decide +kernel
theorem dX8_provisional_46 : decode cX8_provisional 46 = .ok (.getfield 22, 3) := by decide +kernel
theorem dX8_provisional_49 : decode cX8_provisional 49 = .ok (.iload_n 3, 1) := by decide +kernel
theorem dX8_provisional_50 : decode cX8_provisional 50 = .ok (.iaload, 1) := by decide +kernel
theorem dX8_provisional_51 : decode cX8_provisional 51 = .ok (.i2l, 1) := by decide +kernel
theorem dX8_provisional_52 : decode cX8_provisional 52 = .ok (.lmul, 1) := by decide +kernel
theorem dX8_provisional_53 : decode cX8_provisional 53 = .ok (.lastore, 1) := by decide +kernel
theorem dX8_provisional_54 : decode cX8_provisional 54 = .ok (.aload_n 0, 1) := by decide +kernel
theorem dX8_provisional_55 : decode cX8_provisional 55 = .ok (.getfield 22, 3) := by decide +kernel
theorem dX8_provisional_58 : decode cX8_provisional 58 = .ok (.iload_n 3, 1) := by decide +kernel
theorem dX8_provisional_59 : decode cX8_provisional 59 = .ok (.iaload, 1) := by decide +kernel
theorem dX8_provisional_60 : decode cX8_provisional 60 = .ok (.ifCond .lt 11, 3) := by decide +kernel
theorem dX8_provisional_63 : decode cX8_provisional 63 = .ok (.aload_n 2, 1) := by decide +kernel
theorem dX8_provisional_64 : decode cX8_provisional 64 = .ok (.iload_n 3, 1) := by decide +kernel
theorem dX8_provisional_65 : decode cX8_provisional 65 = .ok (.invokestatic 239, 3) := by decide +kernel
theorem dX8_provisional_68 : decode cX8_provisional 68 = .ok (.invokevirtual 243, 3) := by decide +kernel
theorem dX8_provisional_71 : decode cX8_provisional 71 = .ok (.iinc 3 1, 3) := by decide +kernel
theorem dX8_provisional_74 : decode cX8_provisional 74 = .ok (.goto (-57), 3) := by decide +kernel
theorem dX8_provisional_77 : decode cX8_provisional 77 = .ok (.aload_n 2, 1) := by decide +kernel
theorem dX8_provisional_78 : decode cX8_provisional 78 = .ok (.invokevirtual 247, 3) := by decide +kernel
theorem dX8_provisional_81 : decode cX8_provisional 81 = .ok (.ifCond .ne 171, 3) := by decide +kernel
theorem dX8_provisional_84 : decode cX8_provisional 84 = .ok (.aload_n 2, 1) := by decide +kernel
theorem dX8_provisional_85 : decode cX8_provisional 85 = .ok (.invokevirtual 250, 3) := by decide +kernel
theorem dX8_provisional_88 : decode cX8_provisional 88 = .ok (.checkcast 208, 3) := by decide +kernel
theorem dX8_provisional_91 : decode cX8_provisional 91 = .ok (.invokevirtual 253, 3) := by decide +kernel
theorem dX8_provisional_94 : decode cX8_provisional 94 = .ok (.istore_n 3, 1) := by decide +kernel
theorem dX8_provisional_95 : decode cX8_provisional 95 = .ok (.iconst 0, 1) := by decide +kernel
theorem dX8_provisional_96 : decode cX8_provisional 96 = .ok (.istore 4, 2) := by decide +kernel
theorem dX8_provisional_98 : decode cX8_provisional 98 = .ok (.iload 4, 2) := by decide +kernel
theorem dX8_provisional_100 : decode cX8_provisional 100 = .ok (.aload_n 0, 1) := by decide +kernel
theorem dX8_provisional_101 : decode cX8_provisional 101 = .ok (.getfield 47, 3) := by decide +kernel
theorem dX8_provisional_104 : decode cX8_provisional 104 = .ok (.if_icmp .ge 145, 3) := by decide +kernel
theorem dX8_provisional_107 : decode cX8_provisional 107 = .ok (.aload_n 0, 1) := by decide +kernel
theorem dX8_provisional_108 : decode cX8_provisional 108 = .ok (.getfield 58, 3) := by decide +kernel
theorem dX8_provisional_111 : decode cX8_provisional 111 = .ok (.iload 4, 2) := by decide +kernel
theorem dX8_provisional_113 : decode cX8_provisional 113 = .ok (.baload, 1) := by decide +kernel
theorem dX8_provisional_114 : decode cX8_provisional 114 = .ok (.ifCond .eq 129, 3) := by decide +kernel
theorem dX8_provisional_117 : decode cX8_provisional 117 = .ok (.aload_n 0, 1) := by decide +kernel
theorem dX8_provisional_118 : decode cX8_provisional 118 = .ok (.getfield 52, 3) := by decide +kernel
theorem dX8_provisional_121 : decode cX8_provisional 121 = .ok (.iload 4, 2) := by decide +kernel
theorem dX8_provisional_123 : decode cX8_provisional 123 = .ok (.aaload, 1) := by decide +kernel
theorem dX8_provisional_124 : decode cX8_provisional 124 = .ok (.iconst 0, 1) := by decide +kernel
theorem dX8_provisional_125 : decode cX8_provisional 125 = .ok (.iaload, 1) := by decide +kernel
theorem dX8_provisional_126 : decode cX8_provisional 126 = .ok (.iload_n 3, 1) := by decide +kernel
theorem dX8_provisional_127 : decode cX8_provisional 127 = .ok (.if_icmp .eq 19, 3) := by decide +kernel
theorem dX8_provisional_130 : decode cX8_provisional 130 = .ok (.aload_n 0, 1) := by decide +kernel
theorem dX8_provisional_131 : decode cX8_provisional 131 = .ok (.getfield 52, 3) := by decide +kernel
theorem dX8_provisional_134 : decode cX8_provisional 134 = .ok (.iload 4, 2) := by decide +kernel
theorem dX8_provisional_136 : decode cX8_provisional 136 = .ok (.aaload, 1) := by decide +kernel
theorem dX8_provisional_137 : decode cX8_provisional 137 = .ok (.iconst 1, 1) := by decide +kernel
theorem dX8_provisional_138 : decode cX8_provisional 138 = .ok (.iaload, 1) := by decide +kernel
theorem dX8_provisional_139 : decode cX8_provisional 139 = .ok (.iload_n 3, 1) := by decide +kernel
theorem dX8_provisional_140 : decode cX8_provisional 140 = .ok (.if_icmp .eq 6, 3) := by decide +kernel
theorem dX8_provisional_143 : decode cX8_provisional 143 = .ok (.goto 100, 3) := by decide +kernel
theorem dX8_provisional_146 : decode cX8_provisional 146 = .ok (.aload_n 0, 1) := by decide +kernel
theorem dX8_provisional_147 : decode cX8_provisional 147 = .ok (.getfield 52, 3) := by decide +kernel
theorem dX8_provisional_150 : decode cX8_provisional 150 = .ok (.iload 4, 2) := by decide +kernel
theorem dX8_provisional_152 : decode cX8_provisional 152 = .ok (.aaload, 1) := by decide +kernel
theorem dX8_provisional_153 : decode cX8_provisional 153 = .ok (.iconst 0, 1) := by decide +kernel
theorem dX8_provisional_154 : decode cX8_provisional 154 = .ok (.iaload, 1) := by decide +kernel
theorem dX8_provisional_155 : decode cX8_provisional 155 = .ok (.iload_n 3, 1) := by decide +kernel
theorem dX8_provisional_156 : decode cX8_provisional 156 = .ok (.if_icmp .ne 15, 3) := by decide +kernel
theorem dX8_provisional_159 : decode cX8_provisional 159 = .ok (.aload_n 0, 1) := by decide +kernel
theorem dX8_provisional_160 : decode cX8_provisional 160 = .ok (.getfield 52, 3) := by decide +kernel
theorem dX8_provisional_163 : decode cX8_provisional 163 = .ok (.iload 4, 2) := by decide +kernel
theorem dX8_provisional_165 : decode cX8_provisional 165 = .ok (.aaload, 1) := by decide +kernel
theorem dX8_provisional_166 : decode cX8_provisional 166 = .ok (.iconst 1, 1) := by decide +kernel
theorem dX8_provisional_167 : decode cX8_provisional 167 = .ok (.iaload, 1) := by decide +kernel
theorem dX8_provisional_168 : decode cX8_provisional 168 = .ok (.goto 12, 3) := by decide +kernel
theorem dX8_provisional_171 : decode cX8_provisional 171 = .ok (.aload_n 0, 1) := by decide +kernel
theorem dX8_provisional_172 : decode cX8_provisional 172 = .ok (.getfield 52, 3) := by decide +kernel
theorem dX8_provisional_175 : decode cX8_provisional 175 = .ok (.iload 4, 2) := by decide +kernel
theorem dX8_provisional_177 : decode cX8_provisional 177 = .ok (.aaload, 1) := by decide +kernel
theorem dX8_provisional_178 : decode cX8_provisional 178 = .ok (.iconst 0, 1) := by decide +kernel
theorem dX8_provisional_179 : decode cX8_provisional 179 = .ok (.iaload, 1) := by decide +kernel
theorem dX8_provisional_180 : decode cX8_provisional 180 = .ok (.istore 5, 2) := by decide +kernel
theorem dX8_provisional_182 : decode cX8_provisional 182 = .ok (.aload_n 1, 1) := by decide +kernel
theorem dX8_provisional_183 : decode cX8_provisional 183 = .ok (.iload 5, 2) := by decide +kernel
theorem dX8_provisional_185 : decode cX8_provisional 185 = .ok (.laload, 1) := by decide +kernel
theorem dX8_provisional_186 : decode cX8_provisional 186 = .ok (.ldc2_w 235, 3) := by decide +kernel
theorem dX8_provisional_189 : decode cX8_provisional 189 = .ok (.lcmp, 1) := by decide +kernel
theorem dX8_provisional_190 : decode cX8_provisional 190 = .ok (.ifCond .eq 6, 3) := by decide +kernel
theorem dX8_provisional_193 : decode cX8_provisional 193 = .ok (.goto 50, 3) := by decide +kernel
theorem dX8_provisional_196 : decode cX8_provisional 196 = .ok (.aload_n 1, 1) := by decide +kernel
theorem dX8_provisional_197 : decode cX8_provisional 197 = .ok (.iload 5, 2) := by decide +kernel
theorem dX8_provisional_199 : decode cX8_provisional 199 = .ok (.aload_n 1, 1) := by decide +kernel
theorem dX8_provisional_200 : decode cX8_provisional 200 = .ok (.iload_n 3, 1) := by decide +kernel
theorem dX8_provisional_201 : decode cX8_provisional 201 = .ok (.laload, 1) := by decide +kernel
theorem dX8_provisional_202 : decode cX8_provisional 202 = .ok (.aload_n 0, 1) := by decide +kernel
theorem dX8_provisional_203 : decode cX8_provisional 203 = .ok (.getfield 52, 3) := by decide +kernel
theorem dX8_provisional_206 : decode cX8_provisional 206 = .ok (.iload 4, 2) := by decide +kernel
theorem dX8_provisional_208 : decode cX8_provisional 208 = .ok (.aaload, 1) := by decide +kernel
theorem dX8_provisional_209 : decode cX8_provisional 209 = .ok (.iconst 0, 1) := by decide +kernel
theorem dX8_provisional_210 : decode cX8_provisional 210 = .ok (.iaload, 1) := by decide +kernel
theorem dX8_provisional_211 : decode cX8_provisional 211 = .ok (.iload_n 3, 1) := by decide +kernel
theorem dX8_provisional_212 : decode cX8_provisional 212 = .ok (.if_icmp .ne 12, 3) := by decide +kernel
theorem dX8_provisional_215 : decode cX8_provisional 215 = .ok (.aload_n 0, 1) := by decide +kernel
theorem dX8_provisional_216 : decode cX8_provisional 216 = .ok (.iload 4, 2) := by decide +kernel
theorem dX8_provisional_218 : decode cX8_provisional 218 = .ok (.invokevirtual 165, 3) := by decide +kernel
theorem dX8_provisional_221 : decode cX8_provisional 221 = .ok (.goto 10, 3) := by decide +kernel
theorem dX8_provisional_224 : decode cX8_provisional 224 = .ok (.aload_n 0, 1) := by decide +kernel
theorem dX8_provisional_225 : decode cX8_provisional 225 = .ok (.iload 4, 2) := by decide +kernel
theorem dX8_provisional_227 : decode cX8_provisional 227 = .ok (.invokevirtual 165, 3) := by decide +kernel
theorem dX8_provisional_230 : decode cX8_provisional 230 = .ok (.ineg, 1) := by decide +kernel
theorem dX8_provisional_231 : decode cX8_provisional 231 = .ok (.i2l, 1) := by decide +kernel
theorem dX8_provisional_232 : decode cX8_provisional 232 = .ok (.ladd, 1) := by decide +kernel
theorem dX8_provisional_233 : decode cX8_provisional 233 = .ok (.lastore, 1) := by decide +kernel
theorem dX8_provisional_234 : decode cX8_provisional 234 = .ok (.aload_n 2, 1) := by decide +kernel
theorem dX8_provisional_235 : decode cX8_provisional 235 = .ok (.iload 5, 2) := by decide +kernel
theorem dX8_provisional_237 : decode cX8_provisional 237 = .ok (.invokestatic 239, 3) := by decide +kernel
theorem dX8_provisional_240 : decode cX8_provisional 240 = .ok (.invokevirtual 243, 3) := by decide +kernel
theorem dX8_provisional_243 : decode cX8_provisional 243 = .ok (.iinc 4 1, 3) := by decide +kernel
theorem dX8_provisional_246 : decode cX8_provisional 246 = .ok (.goto (-148), 3) := by decide +kernel
theorem dX8_provisional_249 : decode cX8_provisional 249 = .ok (.goto (-172), 3) := by decide +kernel
theorem dX8_provisional_252 : decode cX8_provisional 252 = .ok (.aload_n 1, 1) := by decide +kernel
theorem dX8_provisional_253 : decode cX8_provisional 253 = .ok (.areturn, 1) := by decide +kernel
def j_L_provisional_53 (x3 : Int32) (y1 : Int32) (y2 : Int64) (z0 : Nat → Int64) (z1 : Nat) (z2 : Nat) (z3 : Nat → Nat) (ν μ : gM) : Option ((Int32 × (Nat → Int64) × Nat × Nat × (Nat → Nat)) ⊕ ((Nat → Int64) × Nat × Nat × (Nat → Nat))) :=
  gchk (gIn y1 (lPt ν)) (gchk (gIn x3 16) (if ((gi ν 2 x3.toNatClampNeg) < 0) then some (.inl ((x3 + (1 : Int32)), (vp_updL z0 y1.toNatClampNeg y2), z1, z2, z3)) else gchk (gIn x3 128) (gchk (x3.toNatClampNeg < 128 ∧ z1 ≤ z2 ∧ z2 < 16) (some (.inl ((x3 + (1 : Int32)), (vp_updL z0 y1.toNatClampNeg y2), z1, (z2 + 1), (fun j => if j = z2 then x3.toNatClampNeg else z3 j)))))))
set_option maxHeartbeats 4000000 in
set_option maxRecDepth 100000 in
theorem wj_L_provisional_53 {p : Program} {l : Launch} {e : Env} {s : State} {m : MethodId} {args : Array Value} {below : List Frame} {meth : Method} {c : Code} {D : va_G} {cy : Nat → ClassId} {ad : Nat → Nat} {b : Nat} {la : Nat → Nat → Nat} {ν : gM} {P : va_W} {x3 : Int32} {y1 : Int32} {y2 : Int64} {z0 : Nat → Int64} {z1 : Nat} {z2 : Nat} {z3 : Nat → Nat} {μ : gM} {a1 : Nat} {a2 : Nat} {a4 : Nat} {o : (Int32 × (Nat → Int64) × Nat × Nat × (Nat → Nat)) ⊕ ((Nat → Int64) × Nat × Nat × (Nat → Nat))} {RES : Nat → Int64} {cells slots C0 S0 CM SM : Nat} (h : j_L_provisional_53 x3 y1 y2 z0 z1 z2 z3 ν μ = some o) (F : gF p s m meth c cX8_provisional RX8 6 (some (.array .long))) (E : hE l D cy ad b s) (hY : lY cy ad la ν P) (hc : cells + 0 ≤ C0) (hs : slots + 0 ≤ S0) (hcm : C0 ≤ CM) (hsm : S0 ≤ SM) (hcr : CM ≤ 111) (hsr : SM ≤ 460) (kc : ∀ (t : Int32 × (Nat → Int64) × Nat × Nat × (Nat → Nat)) {H : Heap} {locs : List Loc} {ls : Array Slot}, o = .inl t → hW D cy ad b μ P ([(a1, .inl (cy 1, lPt ν, .inr (.inl t.2.1)))] ++ hdq cy ad a2 a4 t.2.2.1 t.2.2.2.1 t.2.2.2.2) H → va_S (hA b) s.heap H locs → lv_has ls 6 [(0, .ref (la 0 0)), (1, .ref a1), (2, .ref a2), (3, .int t.1)] → W p l e ({ frames := 4, cells := 111, slots := 460, locals := 95 } : Room) s m args below meth c H locs C0 S0 (MQ below (hQ b (fun rv H => ∃ a, rv = some (.ref a) ∧ hW D cy ad b μ P [(a, .inl (cy 1, lPt ν, .inr (.inl RES)))] H)) args s 111 460 (hA b)) (F0 m 17 ls [])) (kx : ∀ (t : (Nat → Int64) × Nat × Nat × (Nat → Nat)) {H : Heap} {locs : List Loc} {ls : Array Slot}, o = .inr t → hW D cy ad b μ P ([(a1, .inl (cy 1, lPt ν, .inr (.inl t.1)))] ++ hdq cy ad a2 a4 t.2.1 t.2.2.1 t.2.2.2) H → va_S (hA b) s.heap H locs → lv_has ls 6 [(0, .ref (la 0 0)), (1, .ref a1), (2, .ref a2)] → W p l e ({ frames := 4, cells := 111, slots := 460, locals := 95 } : Room) s m args below meth c H locs CM SM (MQ below (hQ b (fun rv H => ∃ a, rv = some (.ref a) ∧ hW D cy ad b μ P [(a, .inl (cy 1, lPt ν, .inr (.inl RES)))] H)) args s 111 460 (hA b)) (F0 m 77 ls []))  {H : Heap} {locs : List Loc} {ls : Array Slot} (hM : hW D cy ad b μ P ([(a1, .inl (cy 1, lPt ν, .inr (.inl z0)))] ++ hdq cy ad a2 a4 z1 z2 z3) H) (hS : va_S (hA b) s.heap H locs) (hl : lv_has ls 6 [(0, .ref (la 0 0)), (1, .ref a1), (2, .ref a2), (3, .int x3)]) : W p l e ({ frames := 4, cells := 111, slots := 460, locals := 95 } : Room) s m args below meth c H locs cells slots (MQ below (hQ b (fun rv H => ∃ a, rv = some (.ref a) ∧ hW D cy ad b μ P [(a, .inl (cy 1, lPt ν, .inr (.inl RES)))] H)) args s 111 460 (hA b)) (F0 m 53 ls [.long y2, .int y1, .ref a1]) := by
  obtain ⟨hx, hb, hml, hown, hlocks, hr⟩ := id F
  unfold j_L_provisional_53 at h
  obtain ⟨c9, h⟩ := gchk_e h
  refine h_last (j := 0) hx hb E hM hS rfl c9 dX8_provisional_53 (fun H locs hM hS => ?_)
  replace hM : hW D cy ad b μ P ([(a1, .inl (cy 1, lPt ν, .inr (.inl (vp_updL z0 y1.toNatClampNeg y2))))] ++ hdq cy ad a2 a4 z1 z2 z3) H := hM
  refine lv_aload_n hx hb dX8_provisional_54 rfl (lv_at hl 0 rfl) ?_
  refine h_get hx hb hown E hM (hp_m (hY.c1 0 rfl)) gC_X8 4 (by decide) (v := .ref (la 2 0)) rfl kw_1028 dX8_provisional_55 ?_
  refine lv_iload_n hx hb dX8_provisional_58 rfl (lv_at hl 3 rfl) ?_
  obtain ⟨c10, h⟩ := gchk_e h
  refine l_iald hx hb E hM (hp_m (hY.c1 2 rfl)) c10 (v := (gi ν 2 x3.toNatClampNeg)) rfl dX8_provisional_59 ?_
  refine lv_if_lt (tgt := 71) hx hb dX8_provisional_60 (by decide) (fun c11 => ?_) (fun c11 => ?_)
  · replace h := gif_t c11 h
    refine lv_iinc (v := (x3 + (1 : Int32))) (lv' := [(3, .int (x3 + (1 : Int32))), (0, .ref (la 0 0)), (1, .ref a1), (2, .ref a2)]) hx hb dX8_provisional_71 hl (k := 3) rfl rfl (by decide) rfl (fun ls hl => ?_)
    refine lv_goto (tgt := 17) hx hb dX8_provisional_74 (by decide) ?_
    refine W.widen (k := C0) (n := S0) (by omega) (by omega) ?_
    exact kc _ (Option.some.inj h).symm hM hS (lv_sub hl [1, 2, 3, 0] rfl)
  · replace h := gif_f c11 h
    refine lv_aload_n hx hb dX8_provisional_63 rfl (lv_at hl 2 rfl) ?_
    refine lv_iload_n hx hb dX8_provisional_64 rfl (lv_at hl 3 rfl) ?_
    obtain ⟨c12, h⟩ := gchk_e h
    replace hM := hW.low (T := ([(a1, .inl (cy 1, lPt ν, .inr (.inl (vp_updL z0 y1.toNatClampNeg y2))))] ++ hdq cy ad a2 a4 z1 z2 z3)) hM
    refine h_callS (As := [.int x3]) (rest := [.ref a2]) hx hb (hml.trans hl.1.symm) hown E hM hS xs_J6_valueOf_2dffe kw_1408 (by have h9 := c_valueOf (l := l) (D := D) (cy := cy) (ad := ad) (b := b) (μ := μ) (P := (P ++ ([(a1, .inl (cy 1, lPt ν, .inr (.inl (vp_updL z0 y1.toNatClampNeg y2))))] ++ hdq cy ad a2 a4 z1 z2 z3))) c12.2; rwa [← gIn_e c12] at h9) rfl rfl (Nat.le_of_ble_eq_true rfl) ⟨(Nat.le_of_ble_eq_true rfl), (Nat.le_of_ble_eq_true rfl)⟩ ⟨(show _ ≤ 111 by omega), (show _ ≤ 460 by omega)⟩ dX8_provisional_65 (fun rv H locs hZ hS => ?_)
    obtain ⟨rfl, hM⟩ := hZ
    replace hM := hW.up (T := ([(a1, .inl (cy 1, lPt ν, .inr (.inl (vp_updL z0 y1.toNatClampNeg y2))))] ++ hdq cy ad a2 a4 z1 z2 z3)) hM
    obtain ⟨c13, h⟩ := gchk_e h
    replace hM := hW.right (X := [(a1, .inl (cy 1, lPt ν, .inr (.inl (vp_updL z0 y1.toNatClampNeg y2))))]) (T := (hdq cy ad a2 a4 z1 z2 z3)) hM
    refine h_callV (As := [.ref (ad (200 + (128 + x3.toNatClampNeg)))]) (rest := []) hx hb (hml.trans hl.1.symm) hown E hM hS xy_X10_addLast kw_1428 (c_dqadd c13.1 c13.2.1 c13.2.2) (ht_m List.mem_cons_self) gC_X10.1 rfl rfl (Nat.le_of_ble_eq_true rfl) ⟨(Nat.le_of_ble_eq_true rfl), (Nat.le_of_ble_eq_true rfl)⟩ ⟨(show _ ≤ 111 by omega), (show _ ≤ 460 by omega)⟩ dX8_provisional_68 (fun rv H locs hZ hS => ?_)
    obtain ⟨rfl, hM⟩ := hZ
    replace hM := hW.left (X := [(a1, .inl (cy 1, lPt ν, .inr (.inl (vp_updL z0 y1.toNatClampNeg y2))))]) (T := (hdq cy ad a2 a4 z1 (z2 + 1) (fun j => if j = z2 then x3.toNatClampNeg else z3 j))) hM
    refine lv_iinc (v := (x3 + (1 : Int32))) (lv' := [(3, .int (x3 + (1 : Int32))), (0, .ref (la 0 0)), (1, .ref a1), (2, .ref a2)]) hx hb dX8_provisional_71 hl (k := 3) rfl rfl (by decide) rfl (fun ls hl => ?_)
    refine lv_goto (tgt := 17) hx hb dX8_provisional_74 (by decide) ?_
    refine W.widen (k := C0) (n := S0) (by omega) (by omega) ?_
    exact kc _ (Option.some.inj h).symm hM hS (lv_sub hl [1, 2, 3, 0] rfl)
def b_L_provisional_17 (x3 : Int32) (z0 : Nat → Int64) (z1 : Nat) (z2 : Nat) (z3 : Nat → Nat) (ν μ : gM) : Option ((Int32 × (Nat → Int64) × Nat × Nat × (Nat → Nat)) ⊕ ((Nat → Int64) × Nat × Nat × (Nat → Nat))) :=
  if ((gi ν 0 1) ≤ x3) then some (.inr (z0, z1, z2, z3)) else gchk (gIn x3 16) (if (0 ≤ (gi ν 2 x3.toNatClampNeg)) then gchk (gIn x3 16) (j_L_provisional_53 x3 x3 ((100 : Int64) * (gi ν 2 x3.toNatClampNeg).toInt64) z0 z1 z2 z3 ν μ) else j_L_provisional_53 x3 x3 (-9223372036854775808 : Int64) z0 z1 z2 z3 ν μ)
set_option maxHeartbeats 4000000 in
set_option maxRecDepth 100000 in
theorem wb_L_provisional_17 {p : Program} {l : Launch} {e : Env} {s : State} {m : MethodId} {args : Array Value} {below : List Frame} {meth : Method} {c : Code} {D : va_G} {cy : Nat → ClassId} {ad : Nat → Nat} {b : Nat} {la : Nat → Nat → Nat} {ν : gM} {P : va_W} {x3 : Int32} {z0 : Nat → Int64} {z1 : Nat} {z2 : Nat} {z3 : Nat → Nat} {μ : gM} {a1 : Nat} {a2 : Nat} {a4 : Nat} {o : (Int32 × (Nat → Int64) × Nat × Nat × (Nat → Nat)) ⊕ ((Nat → Int64) × Nat × Nat × (Nat → Nat))} {RES : Nat → Int64} {cells slots C0 S0 CM SM : Nat} (h : b_L_provisional_17 x3 z0 z1 z2 z3 ν μ = some o) (F : gF p s m meth c cX8_provisional RX8 6 (some (.array .long))) (E : hE l D cy ad b s) (hY : lY cy ad la ν P) (hc : cells + 0 ≤ C0) (hs : slots + 0 ≤ S0) (hcm : C0 ≤ CM) (hsm : S0 ≤ SM) (hcr : CM ≤ 111) (hsr : SM ≤ 460) (kc : ∀ (t : Int32 × (Nat → Int64) × Nat × Nat × (Nat → Nat)) {H : Heap} {locs : List Loc} {ls : Array Slot}, o = .inl t → hW D cy ad b μ P ([(a1, .inl (cy 1, lPt ν, .inr (.inl t.2.1)))] ++ hdq cy ad a2 a4 t.2.2.1 t.2.2.2.1 t.2.2.2.2) H → va_S (hA b) s.heap H locs → lv_has ls 6 [(0, .ref (la 0 0)), (1, .ref a1), (2, .ref a2), (3, .int t.1)] → W p l e ({ frames := 4, cells := 111, slots := 460, locals := 95 } : Room) s m args below meth c H locs C0 S0 (MQ below (hQ b (fun rv H => ∃ a, rv = some (.ref a) ∧ hW D cy ad b μ P [(a, .inl (cy 1, lPt ν, .inr (.inl RES)))] H)) args s 111 460 (hA b)) (F0 m 17 ls [])) (kx : ∀ (t : (Nat → Int64) × Nat × Nat × (Nat → Nat)) {H : Heap} {locs : List Loc} {ls : Array Slot}, o = .inr t → hW D cy ad b μ P ([(a1, .inl (cy 1, lPt ν, .inr (.inl t.1)))] ++ hdq cy ad a2 a4 t.2.1 t.2.2.1 t.2.2.2) H → va_S (hA b) s.heap H locs → lv_has ls 6 [(0, .ref (la 0 0)), (1, .ref a1), (2, .ref a2)] → W p l e ({ frames := 4, cells := 111, slots := 460, locals := 95 } : Room) s m args below meth c H locs CM SM (MQ below (hQ b (fun rv H => ∃ a, rv = some (.ref a) ∧ hW D cy ad b μ P [(a, .inl (cy 1, lPt ν, .inr (.inl RES)))] H)) args s 111 460 (hA b)) (F0 m 77 ls []))  {H : Heap} {locs : List Loc} {ls : Array Slot} (hM : hW D cy ad b μ P ([(a1, .inl (cy 1, lPt ν, .inr (.inl z0)))] ++ hdq cy ad a2 a4 z1 z2 z3) H) (hS : va_S (hA b) s.heap H locs) (hl : lv_has ls 6 [(0, .ref (la 0 0)), (1, .ref a1), (2, .ref a2), (3, .int x3)]) : W p l e ({ frames := 4, cells := 111, slots := 460, locals := 95 } : Room) s m args below meth c H locs cells slots (MQ below (hQ b (fun rv H => ∃ a, rv = some (.ref a) ∧ hW D cy ad b μ P [(a, .inl (cy 1, lPt ν, .inr (.inl RES)))] H)) args s 111 460 (hA b)) (F0 m 17 ls []) := by
  obtain ⟨hx, hb, hml, hown, hlocks, hr⟩ := id F
  unfold b_L_provisional_17 at h
  refine lv_iload_n hx hb dX8_provisional_17 rfl (lv_at hl 3 rfl) ?_
  refine lv_aload_n hx hb dX8_provisional_18 rfl (lv_at hl 0 rfl) ?_
  refine h_get hx hb hown E hM (hp_m (hY.c1 0 rfl)) gC_X8 1 (by decide) (v := .int (gi ν 0 1)) rfl kw_1025 dX8_provisional_19 ?_
  refine lv_icmp_ge (tgt := 77) hx hb dX8_provisional_22 (by decide) (fun c5 => ?_) (fun c5 => ?_)
  · replace h := gif_t c5 h
    refine W.widen (k := CM) (n := SM) (by omega) (by omega) ?_
    exact kx _ (Option.some.inj h).symm hM hS (lv_sub hl [0, 1, 2] rfl)
  · replace h := gif_f c5 h
    refine lv_aload_n hx hb dX8_provisional_25 rfl (lv_at hl 1 rfl) ?_
    refine lv_iload_n hx hb dX8_provisional_26 rfl (lv_at hl 3 rfl) ?_
    refine lv_aload_n hx hb dX8_provisional_27 rfl (lv_at hl 0 rfl) ?_
    refine h_get hx hb hown E hM (hp_m (hY.c1 0 rfl)) gC_X8 4 (by decide) (v := .ref (la 2 0)) rfl kw_1028 dX8_provisional_28 ?_
    refine lv_iload_n hx hb dX8_provisional_31 rfl (lv_at hl 3 rfl) ?_
    obtain ⟨c6, h⟩ := gchk_e h
    refine l_iald hx hb E hM (hp_m (hY.c1 2 rfl)) c6 (v := (gi ν 2 x3.toNatClampNeg)) rfl dX8_provisional_32 ?_
    refine lv_if_ge (tgt := 42) hx hb dX8_provisional_33 (by decide) (fun c7 => ?_) (fun c7 => ?_)
    · replace h := gif_t c7 h
      refine lv_ldc2 hx hb hown (v := (100 : Int64)) (E.kw kw_1407) dX8_provisional_42 ?_
      refine lv_aload_n hx hb dX8_provisional_45 rfl (lv_at hl 0 rfl) ?_
      refine h_get hx hb hown E hM (hp_m (hY.c1 0 rfl)) gC_X8 4 (by decide) (v := .ref (la 2 0)) rfl kw_1028 dX8_provisional_46 ?_
      refine lv_iload_n hx hb dX8_provisional_49 rfl (lv_at hl 3 rfl) ?_
      obtain ⟨c8, h⟩ := gchk_e h
      refine l_iald hx hb E hM (hp_m (hY.c1 2 rfl)) c8 (v := (gi ν 2 x3.toNatClampNeg)) rfl dX8_provisional_50 ?_
      refine lv_i2l (v := (gi ν 2 x3.toNatClampNeg).toInt64) hx hb dX8_provisional_51 rfl ?_
      refine lv_lmul hx hb dX8_provisional_52 ?_
      exact wj_L_provisional_53 h F E hY  (by omega) (by omega) hcm hsm hcr hsr kc kx hM hS hl
    · replace h := gif_f c7 h
      refine lv_ldc2 hx hb hown (v := (-9223372036854775808 : Int64)) (E.kw kw_1406) dX8_provisional_36 ?_
      refine lv_goto (tgt := 53) hx hb dX8_provisional_39 (by decide) ?_
      exact wj_L_provisional_53 h F E hY  (by omega) (by omega) hcm hsm hcr hsr kc kx hM hS hl
set_option maxHeartbeats 4000000 in
theorem wl_L_provisional_17 {p : Program} {l : Launch} {e : Env} {s : State} {m : MethodId} {args : Array Value} {below : List Frame} {meth : Method} {c : Code} {D : va_G} {cy : Nat → ClassId} {ad : Nat → Nat} {b : Nat} {la : Nat → Nat → Nat} {ν : gM} {P : va_W}   {μ : gM} {a1 : Nat} {a2 : Nat} {a4 : Nat} {r : (Nat → Int64) × Nat × Nat × (Nat → Nat)} {RES : Nat → Int64} {CM SM : Nat} (F : gF p s m meth c cX8_provisional RX8 6 (some (.array .long))) (E : hE l D cy ad b s) (hY : lY cy ad la ν P) (hcr : CM ≤ 111) (hsr : SM ≤ 460) (kx : ∀ (t : (Nat → Int64) × Nat × Nat × (Nat → Nat)) {H : Heap} {locs : List Loc} {ls : Array Slot}, r = t → hW D cy ad b μ P ([(a1, .inl (cy 1, lPt ν, .inr (.inl t.1)))] ++ hdq cy ad a2 a4 t.2.1 t.2.2.1 t.2.2.2) H → va_S (hA b) s.heap H locs → lv_has ls 6 [(0, .ref (la 0 0)), (1, .ref a1), (2, .ref a2)] → W p l e ({ frames := 4, cells := 111, slots := 460, locals := 95 } : Room) s m args below meth c H locs CM SM (MQ below (hQ b (fun rv H => ∃ a, rv = some (.ref a) ∧ hW D cy ad b μ P [(a, .inl (cy 1, lPt ν, .inr (.inl RES)))] H)) args s 111 460 (hA b)) (F0 m 77 ls []))  : ∀ (n : Nat) (x3 : Int32) (z0 : Nat → Int64) (z1 : Nat) (z2 : Nat) (z3 : Nat → Nat) {cells slots : Nat}, cells + n * 0 ≤ CM → slots + n * 0 ≤ SM → gloop (fun t => b_L_provisional_17  t.1 t.2.1 t.2.2.1 t.2.2.2.1 t.2.2.2.2 ν μ) n (x3, z0, z1, z2, z3) = some r → ∀ {H : Heap} {locs : List Loc} {ls : Array Slot}, hW D cy ad b μ P ([(a1, .inl (cy 1, lPt ν, .inr (.inl z0)))] ++ hdq cy ad a2 a4 z1 z2 z3) H → va_S (hA b) s.heap H locs → lv_has ls 6 [(0, .ref (la 0 0)), (1, .ref a1), (2, .ref a2), (3, .int x3)] → W p l e ({ frames := 4, cells := 111, slots := 460, locals := 95 } : Room) s m args below meth c H locs cells slots (MQ below (hQ b (fun rv H => ∃ a, rv = some (.ref a) ∧ hW D cy ad b μ P [(a, .inl (cy 1, lPt ν, .inr (.inl RES)))] H)) args s 111 460 (hA b)) (F0 m 17 ls []) := by
  intro n
  induction n with
  | zero =>
    intro x3 z0 z1 z2 z3 cells slots hc hs h
    exact (gloop_0 h).elim
  | succ n ih =>
    intro x3 z0 z1 z2 z3 cells slots hc hs h H locs ls hM hS hl
    obtain ⟨o, h0, hcc, hq⟩ := gloop_s h
    have h1 : b_L_provisional_17 x3 z0 z1 z2 z3 ν μ = some o := h0
    exact wb_L_provisional_17 (C0 := cells + 0) (S0 := slots + 0) (CM := CM) (SM := SM) h1 F E hY  (by omega) (by omega) (by omega) (by omega) hcr hsr (fun t H locs ls ho hM hS hl => ih t.1 t.2.1 t.2.2.1 t.2.2.2.1 t.2.2.2.2 (by omega) (by omega) (hcc t ho) hM hS hl) (fun t H locs ls ho hM hS hl => kx t (hq _ ho).symm hM hS hl) hM hS hl
def j_L_provisional_231 (x3 : Int32) (x4 : Int32) (x5 : Int32) (y1 : Int32) (y2 : Int64) (y3 : Int32) (z0 : Nat → Int64) (z1 : Nat) (z2 : Nat) (z3 : Nat → Nat) (ν μ : gM) : Option ((Int32 × (Nat → Int64) × Nat × Nat × (Nat → Nat)) ⊕ ((Nat → Int64) × Nat × Nat × (Nat → Nat))) :=
  gchk (gIn y1 (lPt ν)) (gchk (gIn x5 128) (gchk (x5.toNatClampNeg < 128 ∧ z1 ≤ z2 ∧ z2 < 16) (some (.inl ((x4 + (1 : Int32)), (vp_updL z0 y1.toNatClampNeg (y2 + y3.toInt64)), z1, (z2 + 1), (fun j => if j = z2 then x5.toNatClampNeg else z3 j))))))
set_option maxHeartbeats 4000000 in
set_option maxRecDepth 100000 in
theorem wj_L_provisional_231 {p : Program} {l : Launch} {e : Env} {s : State} {m : MethodId} {args : Array Value} {below : List Frame} {meth : Method} {c : Code} {D : va_G} {cy : Nat → ClassId} {ad : Nat → Nat} {b : Nat} {la : Nat → Nat → Nat} {ν : gM} {P : va_W} {x3 : Int32} {x4 : Int32} {x5 : Int32} {y1 : Int32} {y2 : Int64} {y3 : Int32} {z0 : Nat → Int64} {z1 : Nat} {z2 : Nat} {z3 : Nat → Nat} {μ : gM} {a1 : Nat} {a2 : Nat} {a4 : Nat} {o : (Int32 × (Nat → Int64) × Nat × Nat × (Nat → Nat)) ⊕ ((Nat → Int64) × Nat × Nat × (Nat → Nat))} {RES : Nat → Int64} {cells slots C0 S0 CM SM : Nat} (h : j_L_provisional_231 x3 x4 x5 y1 y2 y3 z0 z1 z2 z3 ν μ = some o) (F : gF p s m meth c cX8_provisional RX8 6 (some (.array .long))) (E : hE l D cy ad b s) (hY : lY cy ad la ν P) (hc : cells + 0 ≤ C0) (hs : slots + 0 ≤ S0) (hcm : C0 ≤ CM) (hsm : S0 ≤ SM) (hcr : CM ≤ 111) (hsr : SM ≤ 460) (kc : ∀ (t : Int32 × (Nat → Int64) × Nat × Nat × (Nat → Nat)) {H : Heap} {locs : List Loc} {ls : Array Slot}, o = .inl t → hW D cy ad b μ P ([(a1, .inl (cy 1, lPt ν, .inr (.inl t.2.1)))] ++ hdq cy ad a2 a4 t.2.2.1 t.2.2.2.1 t.2.2.2.2) H → va_S (hA b) s.heap H locs → lv_has ls 6 [(0, .ref (la 0 0)), (1, .ref a1), (2, .ref a2), (3, .int x3), (4, .int t.1)] → W p l e ({ frames := 4, cells := 111, slots := 460, locals := 95 } : Room) s m args below meth c H locs C0 S0 (MQ below (hQ b (fun rv H => ∃ a, rv = some (.ref a) ∧ hW D cy ad b μ P [(a, .inl (cy 1, lPt ν, .inr (.inl RES)))] H)) args s 111 460 (hA b)) (F0 m 98 ls [])) (kx : ∀ (t : (Nat → Int64) × Nat × Nat × (Nat → Nat)) {H : Heap} {locs : List Loc} {ls : Array Slot}, o = .inr t → hW D cy ad b μ P ([(a1, .inl (cy 1, lPt ν, .inr (.inl t.1)))] ++ hdq cy ad a2 a4 t.2.1 t.2.2.1 t.2.2.2) H → va_S (hA b) s.heap H locs → lv_has ls 6 [(0, .ref (la 0 0)), (1, .ref a1), (2, .ref a2)] → W p l e ({ frames := 4, cells := 111, slots := 460, locals := 95 } : Room) s m args below meth c H locs CM SM (MQ below (hQ b (fun rv H => ∃ a, rv = some (.ref a) ∧ hW D cy ad b μ P [(a, .inl (cy 1, lPt ν, .inr (.inl RES)))] H)) args s 111 460 (hA b)) (F0 m 249 ls []))  {H : Heap} {locs : List Loc} {ls : Array Slot} (hM : hW D cy ad b μ P ([(a1, .inl (cy 1, lPt ν, .inr (.inl z0)))] ++ hdq cy ad a2 a4 z1 z2 z3) H) (hS : va_S (hA b) s.heap H locs) (hl : lv_has ls 6 [(0, .ref (la 0 0)), (1, .ref a1), (2, .ref a2), (3, .int x3), (4, .int x4), (5, .int x5)]) : W p l e ({ frames := 4, cells := 111, slots := 460, locals := 95 } : Room) s m args below meth c H locs cells slots (MQ below (hQ b (fun rv H => ∃ a, rv = some (.ref a) ∧ hW D cy ad b μ P [(a, .inl (cy 1, lPt ν, .inr (.inl RES)))] H)) args s 111 460 (hA b)) (F0 m 231 ls [.int y3, .long y2, .int y1, .ref a1]) := by
  obtain ⟨hx, hb, hml, hown, hlocks, hr⟩ := id F
  unfold j_L_provisional_231 at h
  refine lv_i2l (v := y3.toInt64) hx hb dX8_provisional_231 rfl ?_
  refine lv_ladd hx hb dX8_provisional_232 ?_
  obtain ⟨c36, h⟩ := gchk_e h
  refine h_last (j := 0) hx hb E hM hS rfl c36 dX8_provisional_233 (fun H locs hM hS => ?_)
  replace hM : hW D cy ad b μ P ([(a1, .inl (cy 1, lPt ν, .inr (.inl (vp_updL z0 y1.toNatClampNeg (y2 + y3.toInt64)))))] ++ hdq cy ad a2 a4 z1 z2 z3) H := hM
  refine lv_aload_n hx hb dX8_provisional_234 rfl (lv_at hl 2 rfl) ?_
  refine lv_iload hx hb dX8_provisional_235 (lv_at hl 5 rfl) ?_
  obtain ⟨c37, h⟩ := gchk_e h
  replace hM := hW.low (T := ([(a1, .inl (cy 1, lPt ν, .inr (.inl (vp_updL z0 y1.toNatClampNeg (y2 + y3.toInt64)))))] ++ hdq cy ad a2 a4 z1 z2 z3)) hM
  refine h_callS (As := [.int x5]) (rest := [.ref a2]) hx hb (hml.trans hl.1.symm) hown E hM hS xs_J6_valueOf_2dffe kw_1408 (by have h9 := c_valueOf (l := l) (D := D) (cy := cy) (ad := ad) (b := b) (μ := μ) (P := (P ++ ([(a1, .inl (cy 1, lPt ν, .inr (.inl (vp_updL z0 y1.toNatClampNeg (y2 + y3.toInt64)))))] ++ hdq cy ad a2 a4 z1 z2 z3))) c37.2; rwa [← gIn_e c37] at h9) rfl rfl (Nat.le_of_ble_eq_true rfl) ⟨(Nat.le_of_ble_eq_true rfl), (Nat.le_of_ble_eq_true rfl)⟩ ⟨(show _ ≤ 111 by omega), (show _ ≤ 460 by omega)⟩ dX8_provisional_237 (fun rv H locs hZ hS => ?_)
  obtain ⟨rfl, hM⟩ := hZ
  replace hM := hW.up (T := ([(a1, .inl (cy 1, lPt ν, .inr (.inl (vp_updL z0 y1.toNatClampNeg (y2 + y3.toInt64)))))] ++ hdq cy ad a2 a4 z1 z2 z3)) hM
  obtain ⟨c38, h⟩ := gchk_e h
  replace hM := hW.right (X := [(a1, .inl (cy 1, lPt ν, .inr (.inl (vp_updL z0 y1.toNatClampNeg (y2 + y3.toInt64)))))]) (T := (hdq cy ad a2 a4 z1 z2 z3)) hM
  refine h_callV (As := [.ref (ad (200 + (128 + x5.toNatClampNeg)))]) (rest := []) hx hb (hml.trans hl.1.symm) hown E hM hS xy_X10_addLast kw_1428 (c_dqadd c38.1 c38.2.1 c38.2.2) (ht_m List.mem_cons_self) gC_X10.1 rfl rfl (Nat.le_of_ble_eq_true rfl) ⟨(Nat.le_of_ble_eq_true rfl), (Nat.le_of_ble_eq_true rfl)⟩ ⟨(show _ ≤ 111 by omega), (show _ ≤ 460 by omega)⟩ dX8_provisional_240 (fun rv H locs hZ hS => ?_)
  obtain ⟨rfl, hM⟩ := hZ
  replace hM := hW.left (X := [(a1, .inl (cy 1, lPt ν, .inr (.inl (vp_updL z0 y1.toNatClampNeg (y2 + y3.toInt64)))))]) (T := (hdq cy ad a2 a4 z1 (z2 + 1) (fun j => if j = z2 then x5.toNatClampNeg else z3 j))) hM
  refine lv_iinc (v := (x4 + (1 : Int32))) (lv' := [(4, .int (x4 + (1 : Int32))), (0, .ref (la 0 0)), (1, .ref a1), (2, .ref a2), (3, .int x3), (5, .int x5)]) hx hb dX8_provisional_243 hl (k := 4) rfl rfl (by decide) rfl (fun ls hl => ?_)
  refine lv_goto (tgt := 98) hx hb dX8_provisional_246 (by decide) ?_
  refine W.widen (k := C0) (n := S0) (by omega) (by omega) ?_
  exact kc _ (Option.some.inj h).symm hM hS (lv_sub hl [1, 2, 3, 4, 0] rfl)
def j_L_provisional_180 (x3 : Int32) (x4 : Int32) (y0 : Int32) (z0 : Nat → Int64) (z1 : Nat) (z2 : Nat) (z3 : Nat → Nat) (ν μ : gM) : Option ((Int32 × (Nat → Int64) × Nat × Nat × (Nat → Nat)) ⊕ ((Nat → Int64) × Nat × Nat × (Nat → Nat))) :=
  gchk (gIn y0 (lPt ν)) (if ((z0 y0.toNatClampNeg) = (-9223372036854775808 : Int64)) then gchk (gIn x3 (lPt ν)) (gchk (gIn x4 (lLn ν)) (if ((gi ν (20 + x4.toNatClampNeg) 0) = x3) then Option.bind (f_L_rise x4 ν μ) (fun q39 => j_L_provisional_231 x3 x4 y0 y0 (z0 x3.toNatClampNeg) q39 z0 z1 z2 z3 ν μ) else Option.bind (f_L_rise x4 ν μ) (fun q35 => j_L_provisional_231 x3 x4 y0 y0 (z0 x3.toNatClampNeg) (-q35) z0 z1 z2 z3 ν μ))) else some (.inl ((x4 + (1 : Int32)), z0, z1, z2, z3)))
set_option maxHeartbeats 4000000 in
set_option maxRecDepth 100000 in
theorem wj_L_provisional_180 {p : Program} {l : Launch} {e : Env} {s : State} {m : MethodId} {args : Array Value} {below : List Frame} {meth : Method} {c : Code} {D : va_G} {cy : Nat → ClassId} {ad : Nat → Nat} {b : Nat} {la : Nat → Nat → Nat} {ν : gM} {P : va_W} {x3 : Int32} {x4 : Int32} {y0 : Int32} {z0 : Nat → Int64} {z1 : Nat} {z2 : Nat} {z3 : Nat → Nat} {μ : gM} {a1 : Nat} {a2 : Nat} {a4 : Nat} {o : (Int32 × (Nat → Int64) × Nat × Nat × (Nat → Nat)) ⊕ ((Nat → Int64) × Nat × Nat × (Nat → Nat))} {RES : Nat → Int64} {cells slots C0 S0 CM SM : Nat} (h : j_L_provisional_180 x3 x4 y0 z0 z1 z2 z3 ν μ = some o) (F : gF p s m meth c cX8_provisional RX8 6 (some (.array .long))) (E : hE l D cy ad b s) (hY : lY cy ad la ν P) (hc : cells + 1 ≤ C0) (hs : slots + 4 ≤ S0) (hcm : C0 ≤ CM) (hsm : S0 ≤ SM) (hcr : CM ≤ 111) (hsr : SM ≤ 460) (kc : ∀ (t : Int32 × (Nat → Int64) × Nat × Nat × (Nat → Nat)) {H : Heap} {locs : List Loc} {ls : Array Slot}, o = .inl t → hW D cy ad b μ P ([(a1, .inl (cy 1, lPt ν, .inr (.inl t.2.1)))] ++ hdq cy ad a2 a4 t.2.2.1 t.2.2.2.1 t.2.2.2.2) H → va_S (hA b) s.heap H locs → lv_has ls 6 [(0, .ref (la 0 0)), (1, .ref a1), (2, .ref a2), (3, .int x3), (4, .int t.1)] → W p l e ({ frames := 4, cells := 111, slots := 460, locals := 95 } : Room) s m args below meth c H locs C0 S0 (MQ below (hQ b (fun rv H => ∃ a, rv = some (.ref a) ∧ hW D cy ad b μ P [(a, .inl (cy 1, lPt ν, .inr (.inl RES)))] H)) args s 111 460 (hA b)) (F0 m 98 ls [])) (kx : ∀ (t : (Nat → Int64) × Nat × Nat × (Nat → Nat)) {H : Heap} {locs : List Loc} {ls : Array Slot}, o = .inr t → hW D cy ad b μ P ([(a1, .inl (cy 1, lPt ν, .inr (.inl t.1)))] ++ hdq cy ad a2 a4 t.2.1 t.2.2.1 t.2.2.2) H → va_S (hA b) s.heap H locs → lv_has ls 6 [(0, .ref (la 0 0)), (1, .ref a1), (2, .ref a2)] → W p l e ({ frames := 4, cells := 111, slots := 460, locals := 95 } : Room) s m args below meth c H locs CM SM (MQ below (hQ b (fun rv H => ∃ a, rv = some (.ref a) ∧ hW D cy ad b μ P [(a, .inl (cy 1, lPt ν, .inr (.inl RES)))] H)) args s 111 460 (hA b)) (F0 m 249 ls []))  {H : Heap} {locs : List Loc} {ls : Array Slot} (hM : hW D cy ad b μ P ([(a1, .inl (cy 1, lPt ν, .inr (.inl z0)))] ++ hdq cy ad a2 a4 z1 z2 z3) H) (hS : va_S (hA b) s.heap H locs) (hl : lv_has ls 6 [(0, .ref (la 0 0)), (1, .ref a1), (2, .ref a2), (3, .int x3), (4, .int x4)]) : W p l e ({ frames := 4, cells := 111, slots := 460, locals := 95 } : Room) s m args below meth c H locs cells slots (MQ below (hQ b (fun rv H => ∃ a, rv = some (.ref a) ∧ hW D cy ad b μ P [(a, .inl (cy 1, lPt ν, .inr (.inl RES)))] H)) args s 111 460 (hA b)) (F0 m 180 ls [.int y0]) := by
  obtain ⟨hx, hb, hml, hown, hlocks, hr⟩ := id F
  unfold j_L_provisional_180 at h
  refine lv_istore (lv' := [(5, .int y0), (0, .ref (la 0 0)), (1, .ref a1), (2, .ref a2), (3, .int x3), (4, .int x4)]) hx hb dX8_provisional_180 hl (by decide) rfl (fun ls hl => ?_)
  refine lv_aload_n hx hb dX8_provisional_182 rfl (lv_at hl 2 rfl) ?_
  refine lv_iload hx hb dX8_provisional_183 (lv_at hl 0 rfl) ?_
  obtain ⟨c29, h⟩ := gchk_e h
  refine l_lald hx hb E hM (ht_m List.mem_cons_self) c29 (v := (z0 y0.toNatClampNeg)) rfl dX8_provisional_185 ?_
  refine lv_ldc2 hx hb hown (v := (-9223372036854775808 : Int64)) (E.kw kw_1406) dX8_provisional_186 ?_
  refine W.lcmp hx hb dX8_provisional_189 ?_
  refine lv_if_eq (tgt := 196) hx hb dX8_provisional_190 (by decide) (fun c30 => ?_) (fun c30 => ?_)
  · replace c30 := (lg_cmp_eq _ _).mp c30
    replace h := gif_t c30 h
    refine lv_aload_n hx hb dX8_provisional_196 rfl (lv_at hl 2 rfl) ?_
    refine lv_iload hx hb dX8_provisional_197 (lv_at hl 0 rfl) ?_
    refine lv_aload_n hx hb dX8_provisional_199 rfl (lv_at hl 2 rfl) ?_
    refine lv_iload_n hx hb dX8_provisional_200 rfl (lv_at hl 4 rfl) ?_
    obtain ⟨c31, h⟩ := gchk_e h
    refine l_lald hx hb E hM (ht_m List.mem_cons_self) c31 (v := (z0 x3.toNatClampNeg)) rfl dX8_provisional_201 ?_
    refine lv_aload_n hx hb dX8_provisional_202 rfl (lv_at hl 1 rfl) ?_
    refine h_get hx hb hown E hM (hp_m (hY.c1 0 rfl)) gC_X8 5 (by decide) (v := .ref (la 3 0)) rfl kw_1029 dX8_provisional_203 ?_
    refine lv_iload hx hb dX8_provisional_206 (lv_at hl 5 rfl) ?_
    obtain ⟨c32, h⟩ := gchk_e h
    refine h_rald hx hb E hM (hp_m (hY.c1 3 rfl)) c32 (v := .ref (la 20 x4.toNatClampNeg)) (x_lrf c32) dX8_provisional_208 ?_
    refine lv_iconst (v := (0 : Int32)) hx hb dX8_provisional_209 (by decide) ?_
    refine l_iald hx hb E hM (hp_m (hY.c2 c32.2 0 rfl)) (⟨by decide, by decide⟩ : gIn (0 : Int32) 2) (v := (gi ν (20 + x4.toNatClampNeg) 0)) (congrArg (ν.1 (20 + x4.toNatClampNeg)) (by decide : (0 : Int32).toNatClampNeg = 0)) dX8_provisional_210 ?_
    refine lv_iload_n hx hb dX8_provisional_211 rfl (lv_at hl 4 rfl) ?_
    refine lv_icmp_ne (tgt := 224) hx hb dX8_provisional_212 (by decide) (fun c34 => ?_) (fun c34 => ?_)
    · replace h := gif_f c34 h
      refine lv_aload_n hx hb dX8_provisional_224 rfl (lv_at hl 1 rfl) ?_
      refine lv_iload hx hb dX8_provisional_225 (lv_at hl 5 rfl) ?_
      obtain ⟨q35, hq35, h⟩ := gbind_e h
      replace hM := hW.low (T := ([(a1, .inl (cy 1, lPt ν, .inr (.inl z0)))] ++ hdq cy ad a2 a4 z1 z2 z3)) hM
      refine h_callV (As := [.int x4]) (rest := [.long (z0 x3.toNatClampNeg), .int y0, .ref a1]) hx hb (hml.trans hl.1.symm) hown E hM hS xy_X8_rise kw_1146 (c_L_rise (hY.app _) hq35) (hp_m ((hY.app _).c1 0 rfl)) gC_X8.1 rfl rfl (Nat.le_of_ble_eq_true rfl) ⟨(Nat.le_of_ble_eq_true rfl), (Nat.le_of_ble_eq_true rfl)⟩ ⟨(show _ ≤ 111 by omega), (show _ ≤ 460 by omega)⟩ dX8_provisional_227 (fun rv H locs hZ hS => ?_)
      obtain ⟨rfl, hM⟩ := hZ
      replace hM := hW.up (T := ([(a1, .inl (cy 1, lPt ν, .inr (.inl z0)))] ++ hdq cy ad a2 a4 z1 z2 z3)) hM
      refine lv_ineg hx hb dX8_provisional_230 ?_
      exact wj_L_provisional_231 h F E hY  (by omega) (by omega) hcm hsm hcr hsr kc kx hM hS (lv_sub hl [1, 2, 3, 4, 5, 0] rfl)
    · replace h := gif_t c34 h
      refine lv_aload_n hx hb dX8_provisional_215 rfl (lv_at hl 1 rfl) ?_
      refine lv_iload hx hb dX8_provisional_216 (lv_at hl 5 rfl) ?_
      obtain ⟨q39, hq39, h⟩ := gbind_e h
      replace hM := hW.low (T := ([(a1, .inl (cy 1, lPt ν, .inr (.inl z0)))] ++ hdq cy ad a2 a4 z1 z2 z3)) hM
      refine h_callV (As := [.int x4]) (rest := [.long (z0 x3.toNatClampNeg), .int y0, .ref a1]) hx hb (hml.trans hl.1.symm) hown E hM hS xy_X8_rise kw_1146 (c_L_rise (hY.app _) hq39) (hp_m ((hY.app _).c1 0 rfl)) gC_X8.1 rfl rfl (Nat.le_of_ble_eq_true rfl) ⟨(Nat.le_of_ble_eq_true rfl), (Nat.le_of_ble_eq_true rfl)⟩ ⟨(show _ ≤ 111 by omega), (show _ ≤ 460 by omega)⟩ dX8_provisional_218 (fun rv H locs hZ hS => ?_)
      obtain ⟨rfl, hM⟩ := hZ
      replace hM := hW.up (T := ([(a1, .inl (cy 1, lPt ν, .inr (.inl z0)))] ++ hdq cy ad a2 a4 z1 z2 z3)) hM
      refine lv_goto (tgt := 231) hx hb dX8_provisional_221 (by decide) ?_
      exact wj_L_provisional_231 h F E hY  (by omega) (by omega) hcm hsm hcr hsr kc kx hM hS (lv_sub hl [1, 2, 3, 4, 5, 0] rfl)
  · replace c30 := fun w => c30 ((lg_cmp_eq _ _).mpr w)
    replace h := gif_f c30 h
    refine lv_goto (tgt := 243) hx hb dX8_provisional_193 (by decide) ?_
    refine lv_iinc (v := (x4 + (1 : Int32))) (lv' := [(4, .int (x4 + (1 : Int32))), (5, .int y0), (0, .ref (la 0 0)), (1, .ref a1), (2, .ref a2), (3, .int x3)]) hx hb dX8_provisional_243 hl (k := 5) rfl rfl (by decide) rfl (fun ls hl => ?_)
    refine lv_goto (tgt := 98) hx hb dX8_provisional_246 (by decide) ?_
    refine W.widen (k := C0) (n := S0) (by omega) (by omega) ?_
    exact kc _ (Option.some.inj h).symm hM hS (lv_sub hl [2, 3, 4, 5, 0] rfl)
def j_L_provisional_146 (x3 : Int32) (x4 : Int32) (z0 : Nat → Int64) (z1 : Nat) (z2 : Nat) (z3 : Nat → Nat) (ν μ : gM) : Option ((Int32 × (Nat → Int64) × Nat × Nat × (Nat → Nat)) ⊕ ((Nat → Int64) × Nat × Nat × (Nat → Nat))) :=
  gchk (gIn x4 (lLn ν)) (if ((gi ν (20 + x4.toNatClampNeg) 0) = x3) then gchk (gIn x4 (lLn ν)) (j_L_provisional_180 x3 x4 (gi ν (20 + x4.toNatClampNeg) 1) z0 z1 z2 z3 ν μ) else gchk (gIn x4 (lLn ν)) (j_L_provisional_180 x3 x4 (gi ν (20 + x4.toNatClampNeg) 0) z0 z1 z2 z3 ν μ))
set_option maxHeartbeats 4000000 in
set_option maxRecDepth 100000 in
theorem wj_L_provisional_146 {p : Program} {l : Launch} {e : Env} {s : State} {m : MethodId} {args : Array Value} {below : List Frame} {meth : Method} {c : Code} {D : va_G} {cy : Nat → ClassId} {ad : Nat → Nat} {b : Nat} {la : Nat → Nat → Nat} {ν : gM} {P : va_W} {x3 : Int32} {x4 : Int32} {z0 : Nat → Int64} {z1 : Nat} {z2 : Nat} {z3 : Nat → Nat} {μ : gM} {a1 : Nat} {a2 : Nat} {a4 : Nat} {o : (Int32 × (Nat → Int64) × Nat × Nat × (Nat → Nat)) ⊕ ((Nat → Int64) × Nat × Nat × (Nat → Nat))} {RES : Nat → Int64} {cells slots C0 S0 CM SM : Nat} (h : j_L_provisional_146 x3 x4 z0 z1 z2 z3 ν μ = some o) (F : gF p s m meth c cX8_provisional RX8 6 (some (.array .long))) (E : hE l D cy ad b s) (hY : lY cy ad la ν P) (hc : cells + 1 ≤ C0) (hs : slots + 4 ≤ S0) (hcm : C0 ≤ CM) (hsm : S0 ≤ SM) (hcr : CM ≤ 111) (hsr : SM ≤ 460) (kc : ∀ (t : Int32 × (Nat → Int64) × Nat × Nat × (Nat → Nat)) {H : Heap} {locs : List Loc} {ls : Array Slot}, o = .inl t → hW D cy ad b μ P ([(a1, .inl (cy 1, lPt ν, .inr (.inl t.2.1)))] ++ hdq cy ad a2 a4 t.2.2.1 t.2.2.2.1 t.2.2.2.2) H → va_S (hA b) s.heap H locs → lv_has ls 6 [(0, .ref (la 0 0)), (1, .ref a1), (2, .ref a2), (3, .int x3), (4, .int t.1)] → W p l e ({ frames := 4, cells := 111, slots := 460, locals := 95 } : Room) s m args below meth c H locs C0 S0 (MQ below (hQ b (fun rv H => ∃ a, rv = some (.ref a) ∧ hW D cy ad b μ P [(a, .inl (cy 1, lPt ν, .inr (.inl RES)))] H)) args s 111 460 (hA b)) (F0 m 98 ls [])) (kx : ∀ (t : (Nat → Int64) × Nat × Nat × (Nat → Nat)) {H : Heap} {locs : List Loc} {ls : Array Slot}, o = .inr t → hW D cy ad b μ P ([(a1, .inl (cy 1, lPt ν, .inr (.inl t.1)))] ++ hdq cy ad a2 a4 t.2.1 t.2.2.1 t.2.2.2) H → va_S (hA b) s.heap H locs → lv_has ls 6 [(0, .ref (la 0 0)), (1, .ref a1), (2, .ref a2)] → W p l e ({ frames := 4, cells := 111, slots := 460, locals := 95 } : Room) s m args below meth c H locs CM SM (MQ below (hQ b (fun rv H => ∃ a, rv = some (.ref a) ∧ hW D cy ad b μ P [(a, .inl (cy 1, lPt ν, .inr (.inl RES)))] H)) args s 111 460 (hA b)) (F0 m 249 ls []))  {H : Heap} {locs : List Loc} {ls : Array Slot} (hM : hW D cy ad b μ P ([(a1, .inl (cy 1, lPt ν, .inr (.inl z0)))] ++ hdq cy ad a2 a4 z1 z2 z3) H) (hS : va_S (hA b) s.heap H locs) (hl : lv_has ls 6 [(0, .ref (la 0 0)), (1, .ref a1), (2, .ref a2), (3, .int x3), (4, .int x4)]) : W p l e ({ frames := 4, cells := 111, slots := 460, locals := 95 } : Room) s m args below meth c H locs cells slots (MQ below (hQ b (fun rv H => ∃ a, rv = some (.ref a) ∧ hW D cy ad b μ P [(a, .inl (cy 1, lPt ν, .inr (.inl RES)))] H)) args s 111 460 (hA b)) (F0 m 146 ls []) := by
  obtain ⟨hx, hb, hml, hown, hlocks, hr⟩ := id F
  unfold j_L_provisional_146 at h
  refine lv_aload_n hx hb dX8_provisional_146 rfl (lv_at hl 0 rfl) ?_
  refine h_get hx hb hown E hM (hp_m (hY.c1 0 rfl)) gC_X8 5 (by decide) (v := .ref (la 3 0)) rfl kw_1029 dX8_provisional_147 ?_
  refine lv_iload hx hb dX8_provisional_150 (lv_at hl 4 rfl) ?_
  obtain ⟨c24, h⟩ := gchk_e h
  refine h_rald hx hb E hM (hp_m (hY.c1 3 rfl)) c24 (v := .ref (la 20 x4.toNatClampNeg)) (x_lrf c24) dX8_provisional_152 ?_
  refine lv_iconst (v := (0 : Int32)) hx hb dX8_provisional_153 (by decide) ?_
  refine l_iald hx hb E hM (hp_m (hY.c2 c24.2 0 rfl)) (⟨by decide, by decide⟩ : gIn (0 : Int32) 2) (v := (gi ν (20 + x4.toNatClampNeg) 0)) (congrArg (ν.1 (20 + x4.toNatClampNeg)) (by decide : (0 : Int32).toNatClampNeg = 0)) dX8_provisional_154 ?_
  refine lv_iload_n hx hb dX8_provisional_155 rfl (lv_at hl 3 rfl) ?_
  refine lv_icmp_ne (tgt := 171) hx hb dX8_provisional_156 (by decide) (fun c26 => ?_) (fun c26 => ?_)
  · replace h := gif_f c26 h
    refine lv_aload_n hx hb dX8_provisional_171 rfl (lv_at hl 0 rfl) ?_
    refine h_get hx hb hown E hM (hp_m (hY.c1 0 rfl)) gC_X8 5 (by decide) (v := .ref (la 3 0)) rfl kw_1029 dX8_provisional_172 ?_
    refine lv_iload hx hb dX8_provisional_175 (lv_at hl 4 rfl) ?_
    obtain ⟨c27, h⟩ := gchk_e h
    refine h_rald hx hb E hM (hp_m (hY.c1 3 rfl)) c27 (v := .ref (la 20 x4.toNatClampNeg)) (x_lrf c27) dX8_provisional_177 ?_
    refine lv_iconst (v := (0 : Int32)) hx hb dX8_provisional_178 (by decide) ?_
    refine l_iald hx hb E hM (hp_m (hY.c2 c27.2 0 rfl)) (⟨by decide, by decide⟩ : gIn (0 : Int32) 2) (v := (gi ν (20 + x4.toNatClampNeg) 0)) (congrArg (ν.1 (20 + x4.toNatClampNeg)) (by decide : (0 : Int32).toNatClampNeg = 0)) dX8_provisional_179 ?_
    exact wj_L_provisional_180 h F E hY  (by omega) (by omega) hcm hsm hcr hsr kc kx hM hS hl
  · replace h := gif_t c26 h
    refine lv_aload_n hx hb dX8_provisional_159 rfl (lv_at hl 0 rfl) ?_
    refine h_get hx hb hown E hM (hp_m (hY.c1 0 rfl)) gC_X8 5 (by decide) (v := .ref (la 3 0)) rfl kw_1029 dX8_provisional_160 ?_
    refine lv_iload hx hb dX8_provisional_163 (lv_at hl 4 rfl) ?_
    obtain ⟨c40, h⟩ := gchk_e h
    refine h_rald hx hb E hM (hp_m (hY.c1 3 rfl)) c40 (v := .ref (la 20 x4.toNatClampNeg)) (x_lrf c40) dX8_provisional_165 ?_
    refine lv_iconst (v := (1 : Int32)) hx hb dX8_provisional_166 (by decide) ?_
    refine l_iald hx hb E hM (hp_m (hY.c2 c40.2 0 rfl)) (⟨by decide, by decide⟩ : gIn (1 : Int32) 2) (v := (gi ν (20 + x4.toNatClampNeg) 1)) (congrArg (ν.1 (20 + x4.toNatClampNeg)) (by decide : (1 : Int32).toNatClampNeg = 1)) dX8_provisional_167 ?_
    refine lv_goto (tgt := 180) hx hb dX8_provisional_168 (by decide) ?_
    exact wj_L_provisional_180 h F E hY  (by omega) (by omega) hcm hsm hcr hsr kc kx hM hS hl
def b_L_provisional_98 (x3 : Int32) (x4 : Int32) (z0 : Nat → Int64) (z1 : Nat) (z2 : Nat) (z3 : Nat → Nat) (ν μ : gM) : Option ((Int32 × (Nat → Int64) × Nat × Nat × (Nat → Nat)) ⊕ ((Nat → Int64) × Nat × Nat × (Nat → Nat))) :=
  if ((gi ν 0 2) ≤ x4) then some (.inr (z0, z1, z2, z3)) else gchk (gIn x4 (lLn ν)) (if ((gi ν 5 x4.toNatClampNeg) = 0) then some (.inl ((x4 + (1 : Int32)), z0, z1, z2, z3)) else gchk (gIn x4 (lLn ν)) (if ((gi ν (20 + x4.toNatClampNeg) 0) = x3) then j_L_provisional_146 x3 x4 z0 z1 z2 z3 ν μ else gchk (gIn x4 (lLn ν)) (if ((gi ν (20 + x4.toNatClampNeg) 1) = x3) then j_L_provisional_146 x3 x4 z0 z1 z2 z3 ν μ else some (.inl ((x4 + (1 : Int32)), z0, z1, z2, z3)))))
set_option maxHeartbeats 4000000 in
set_option maxRecDepth 100000 in
theorem wb_L_provisional_98 {p : Program} {l : Launch} {e : Env} {s : State} {m : MethodId} {args : Array Value} {below : List Frame} {meth : Method} {c : Code} {D : va_G} {cy : Nat → ClassId} {ad : Nat → Nat} {b : Nat} {la : Nat → Nat → Nat} {ν : gM} {P : va_W} {x3 : Int32} {x4 : Int32} {z0 : Nat → Int64} {z1 : Nat} {z2 : Nat} {z3 : Nat → Nat} {μ : gM} {a1 : Nat} {a2 : Nat} {a4 : Nat} {o : (Int32 × (Nat → Int64) × Nat × Nat × (Nat → Nat)) ⊕ ((Nat → Int64) × Nat × Nat × (Nat → Nat))} {RES : Nat → Int64} {cells slots C0 S0 CM SM : Nat} (h : b_L_provisional_98 x3 x4 z0 z1 z2 z3 ν μ = some o) (F : gF p s m meth c cX8_provisional RX8 6 (some (.array .long))) (E : hE l D cy ad b s) (hY : lY cy ad la ν P) (hc : cells + 1 ≤ C0) (hs : slots + 4 ≤ S0) (hcm : C0 ≤ CM) (hsm : S0 ≤ SM) (hcr : CM ≤ 111) (hsr : SM ≤ 460) (kc : ∀ (t : Int32 × (Nat → Int64) × Nat × Nat × (Nat → Nat)) {H : Heap} {locs : List Loc} {ls : Array Slot}, o = .inl t → hW D cy ad b μ P ([(a1, .inl (cy 1, lPt ν, .inr (.inl t.2.1)))] ++ hdq cy ad a2 a4 t.2.2.1 t.2.2.2.1 t.2.2.2.2) H → va_S (hA b) s.heap H locs → lv_has ls 6 [(0, .ref (la 0 0)), (1, .ref a1), (2, .ref a2), (3, .int x3), (4, .int t.1)] → W p l e ({ frames := 4, cells := 111, slots := 460, locals := 95 } : Room) s m args below meth c H locs C0 S0 (MQ below (hQ b (fun rv H => ∃ a, rv = some (.ref a) ∧ hW D cy ad b μ P [(a, .inl (cy 1, lPt ν, .inr (.inl RES)))] H)) args s 111 460 (hA b)) (F0 m 98 ls [])) (kx : ∀ (t : (Nat → Int64) × Nat × Nat × (Nat → Nat)) {H : Heap} {locs : List Loc} {ls : Array Slot}, o = .inr t → hW D cy ad b μ P ([(a1, .inl (cy 1, lPt ν, .inr (.inl t.1)))] ++ hdq cy ad a2 a4 t.2.1 t.2.2.1 t.2.2.2) H → va_S (hA b) s.heap H locs → lv_has ls 6 [(0, .ref (la 0 0)), (1, .ref a1), (2, .ref a2)] → W p l e ({ frames := 4, cells := 111, slots := 460, locals := 95 } : Room) s m args below meth c H locs CM SM (MQ below (hQ b (fun rv H => ∃ a, rv = some (.ref a) ∧ hW D cy ad b μ P [(a, .inl (cy 1, lPt ν, .inr (.inl RES)))] H)) args s 111 460 (hA b)) (F0 m 249 ls []))  {H : Heap} {locs : List Loc} {ls : Array Slot} (hM : hW D cy ad b μ P ([(a1, .inl (cy 1, lPt ν, .inr (.inl z0)))] ++ hdq cy ad a2 a4 z1 z2 z3) H) (hS : va_S (hA b) s.heap H locs) (hl : lv_has ls 6 [(0, .ref (la 0 0)), (1, .ref a1), (2, .ref a2), (3, .int x3), (4, .int x4)]) : W p l e ({ frames := 4, cells := 111, slots := 460, locals := 95 } : Room) s m args below meth c H locs cells slots (MQ below (hQ b (fun rv H => ∃ a, rv = some (.ref a) ∧ hW D cy ad b μ P [(a, .inl (cy 1, lPt ν, .inr (.inl RES)))] H)) args s 111 460 (hA b)) (F0 m 98 ls []) := by
  obtain ⟨hx, hb, hml, hown, hlocks, hr⟩ := id F
  unfold b_L_provisional_98 at h
  refine lv_iload hx hb dX8_provisional_98 (lv_at hl 4 rfl) ?_
  refine lv_aload_n hx hb dX8_provisional_100 rfl (lv_at hl 0 rfl) ?_
  refine h_get hx hb hown E hM (hp_m (hY.c1 0 rfl)) gC_X8 2 (by decide) (v := .int (gi ν 0 2)) rfl kw_1026 dX8_provisional_101 ?_
  refine lv_icmp_ge (tgt := 249) hx hb dX8_provisional_104 (by decide) (fun c18 => ?_) (fun c18 => ?_)
  · replace h := gif_t c18 h
    refine W.widen (k := CM) (n := SM) (by omega) (by omega) ?_
    exact kx _ (Option.some.inj h).symm hM hS (lv_sub hl [0, 1, 2] rfl)
  · replace h := gif_f c18 h
    refine lv_aload_n hx hb dX8_provisional_107 rfl (lv_at hl 0 rfl) ?_
    refine h_get hx hb hown E hM (hp_m (hY.c1 0 rfl)) gC_X8 7 (by decide) (v := .ref (la 5 0)) rfl kw_1031 dX8_provisional_108 ?_
    refine lv_iload hx hb dX8_provisional_111 (lv_at hl 4 rfl) ?_
    obtain ⟨c19, h⟩ := gchk_e h
    refine l_zald hx hb E hM (hp_m (hY.c1 5 rfl)) c19 (v := (gi ν 5 x4.toNatClampNeg)) rfl dX8_provisional_113 ?_
    refine lv_if_eq (tgt := 243) hx hb dX8_provisional_114 (by decide) (fun c20 => ?_) (fun c20 => ?_)
    · replace h := gif_t c20 h
      refine lv_iinc (v := (x4 + (1 : Int32))) (lv' := [(4, .int (x4 + (1 : Int32))), (0, .ref (la 0 0)), (1, .ref a1), (2, .ref a2), (3, .int x3)]) hx hb dX8_provisional_243 hl (k := 4) rfl rfl (by decide) rfl (fun ls hl => ?_)
      refine lv_goto (tgt := 98) hx hb dX8_provisional_246 (by decide) ?_
      refine W.widen (k := C0) (n := S0) (by omega) (by omega) ?_
      exact kc _ (Option.some.inj h).symm hM hS (lv_sub hl [1, 2, 3, 4, 0] rfl)
    · replace h := gif_f c20 h
      refine lv_aload_n hx hb dX8_provisional_117 rfl (lv_at hl 0 rfl) ?_
      refine h_get hx hb hown E hM (hp_m (hY.c1 0 rfl)) gC_X8 5 (by decide) (v := .ref (la 3 0)) rfl kw_1029 dX8_provisional_118 ?_
      refine lv_iload hx hb dX8_provisional_121 (lv_at hl 4 rfl) ?_
      obtain ⟨c21, h⟩ := gchk_e h
      refine h_rald hx hb E hM (hp_m (hY.c1 3 rfl)) c21 (v := .ref (la 20 x4.toNatClampNeg)) (x_lrf c21) dX8_provisional_123 ?_
      refine lv_iconst (v := (0 : Int32)) hx hb dX8_provisional_124 (by decide) ?_
      refine l_iald hx hb E hM (hp_m (hY.c2 c21.2 0 rfl)) (⟨by decide, by decide⟩ : gIn (0 : Int32) 2) (v := (gi ν (20 + x4.toNatClampNeg) 0)) (congrArg (ν.1 (20 + x4.toNatClampNeg)) (by decide : (0 : Int32).toNatClampNeg = 0)) dX8_provisional_125 ?_
      refine lv_iload_n hx hb dX8_provisional_126 rfl (lv_at hl 3 rfl) ?_
      refine lv_icmp_eq (tgt := 146) hx hb dX8_provisional_127 (by decide) (fun c23 => ?_) (fun c23 => ?_)
      · replace h := gif_t c23 h
        exact wj_L_provisional_146 h F E hY  (by omega) (by omega) hcm hsm hcr hsr kc kx hM hS hl
      · replace h := gif_f c23 h
        refine lv_aload_n hx hb dX8_provisional_130 rfl (lv_at hl 0 rfl) ?_
        refine h_get hx hb hown E hM (hp_m (hY.c1 0 rfl)) gC_X8 5 (by decide) (v := .ref (la 3 0)) rfl kw_1029 dX8_provisional_131 ?_
        refine lv_iload hx hb dX8_provisional_134 (lv_at hl 4 rfl) ?_
        obtain ⟨c42, h⟩ := gchk_e h
        refine h_rald hx hb E hM (hp_m (hY.c1 3 rfl)) c42 (v := .ref (la 20 x4.toNatClampNeg)) (x_lrf c42) dX8_provisional_136 ?_
        refine lv_iconst (v := (1 : Int32)) hx hb dX8_provisional_137 (by decide) ?_
        refine l_iald hx hb E hM (hp_m (hY.c2 c42.2 0 rfl)) (⟨by decide, by decide⟩ : gIn (1 : Int32) 2) (v := (gi ν (20 + x4.toNatClampNeg) 1)) (congrArg (ν.1 (20 + x4.toNatClampNeg)) (by decide : (1 : Int32).toNatClampNeg = 1)) dX8_provisional_138 ?_
        refine lv_iload_n hx hb dX8_provisional_139 rfl (lv_at hl 3 rfl) ?_
        refine lv_icmp_eq (tgt := 146) hx hb dX8_provisional_140 (by decide) (fun c44 => ?_) (fun c44 => ?_)
        · replace h := gif_t c44 h
          exact wj_L_provisional_146 h F E hY  (by omega) (by omega) hcm hsm hcr hsr kc kx hM hS hl
        · replace h := gif_f c44 h
          refine lv_goto (tgt := 243) hx hb dX8_provisional_143 (by decide) ?_
          refine lv_iinc (v := (x4 + (1 : Int32))) (lv' := [(4, .int (x4 + (1 : Int32))), (0, .ref (la 0 0)), (1, .ref a1), (2, .ref a2), (3, .int x3)]) hx hb dX8_provisional_243 hl (k := 4) rfl rfl (by decide) rfl (fun ls hl => ?_)
          refine lv_goto (tgt := 98) hx hb dX8_provisional_246 (by decide) ?_
          refine W.widen (k := C0) (n := S0) (by omega) (by omega) ?_
          exact kc _ (Option.some.inj h).symm hM hS (lv_sub hl [1, 2, 3, 4, 0] rfl)
set_option maxHeartbeats 4000000 in
theorem wl_L_provisional_98 {p : Program} {l : Launch} {e : Env} {s : State} {m : MethodId} {args : Array Value} {below : List Frame} {meth : Method} {c : Code} {D : va_G} {cy : Nat → ClassId} {ad : Nat → Nat} {b : Nat} {la : Nat → Nat → Nat} {ν : gM} {P : va_W} {x3 : Int32}  {μ : gM} {a1 : Nat} {a2 : Nat} {a4 : Nat} {r : (Nat → Int64) × Nat × Nat × (Nat → Nat)} {RES : Nat → Int64} {CM SM : Nat} (F : gF p s m meth c cX8_provisional RX8 6 (some (.array .long))) (E : hE l D cy ad b s) (hY : lY cy ad la ν P) (hcr : CM ≤ 111) (hsr : SM ≤ 460) (kx : ∀ (t : (Nat → Int64) × Nat × Nat × (Nat → Nat)) {H : Heap} {locs : List Loc} {ls : Array Slot}, r = t → hW D cy ad b μ P ([(a1, .inl (cy 1, lPt ν, .inr (.inl t.1)))] ++ hdq cy ad a2 a4 t.2.1 t.2.2.1 t.2.2.2) H → va_S (hA b) s.heap H locs → lv_has ls 6 [(0, .ref (la 0 0)), (1, .ref a1), (2, .ref a2)] → W p l e ({ frames := 4, cells := 111, slots := 460, locals := 95 } : Room) s m args below meth c H locs CM SM (MQ below (hQ b (fun rv H => ∃ a, rv = some (.ref a) ∧ hW D cy ad b μ P [(a, .inl (cy 1, lPt ν, .inr (.inl RES)))] H)) args s 111 460 (hA b)) (F0 m 249 ls []))  : ∀ (n : Nat) (x4 : Int32) (z0 : Nat → Int64) (z1 : Nat) (z2 : Nat) (z3 : Nat → Nat) {cells slots : Nat}, cells + n * 1 ≤ CM → slots + n * 4 ≤ SM → gloop (fun t => b_L_provisional_98 x3 t.1 t.2.1 t.2.2.1 t.2.2.2.1 t.2.2.2.2 ν μ) n (x4, z0, z1, z2, z3) = some r → ∀ {H : Heap} {locs : List Loc} {ls : Array Slot}, hW D cy ad b μ P ([(a1, .inl (cy 1, lPt ν, .inr (.inl z0)))] ++ hdq cy ad a2 a4 z1 z2 z3) H → va_S (hA b) s.heap H locs → lv_has ls 6 [(0, .ref (la 0 0)), (1, .ref a1), (2, .ref a2), (3, .int x3), (4, .int x4)] → W p l e ({ frames := 4, cells := 111, slots := 460, locals := 95 } : Room) s m args below meth c H locs cells slots (MQ below (hQ b (fun rv H => ∃ a, rv = some (.ref a) ∧ hW D cy ad b μ P [(a, .inl (cy 1, lPt ν, .inr (.inl RES)))] H)) args s 111 460 (hA b)) (F0 m 98 ls []) := by
  intro n
  induction n with
  | zero =>
    intro x4 z0 z1 z2 z3 cells slots hc hs h
    exact (gloop_0 h).elim
  | succ n ih =>
    intro x4 z0 z1 z2 z3 cells slots hc hs h H locs ls hM hS hl
    obtain ⟨o, h0, hcc, hq⟩ := gloop_s h
    have h1 : b_L_provisional_98 x3 x4 z0 z1 z2 z3 ν μ = some o := h0
    exact wb_L_provisional_98 (C0 := cells + 1) (S0 := slots + 4) (CM := CM) (SM := SM) h1 F E hY  (by omega) (by omega) (by omega) (by omega) hcr hsr (fun t H locs ls ho hM hS hl => ih t.1 t.2.1 t.2.2.1 t.2.2.2.1 t.2.2.2.2 (by omega) (by omega) (hcc t ho) hM hS hl) (fun t H locs ls ho hM hS hl => kx t (hq _ ho).symm hM hS hl) hM hS hl
def b_L_provisional_77 (z0 : Nat → Int64) (z1 : Nat) (z2 : Nat) (z3 : Nat → Nat) (ν μ : gM) : Option (((Nat → Int64) × Nat × Nat × (Nat → Nat)) ⊕ ((Nat → Int64))) :=
  gchk (z1 ≤ z2 ∧ z2 < 17) (if ((b2i (decide (z1 = z2))) = 0) then gchk ((z1 < z2 ∧ z2 < 17) ∧ z3 z1 < 128) (Option.bind (gloop (fun t => b_L_provisional_98 (nI (z3 z1)) t.1 t.2.1 t.2.2.1 t.2.2.2.1 t.2.2.2.2 ν μ) 12 ((0 : Int32), z0, (z1 + 1), z2, z3)) (fun q45 => some (.inl (q45.1, q45.2.1, q45.2.2.1, q45.2.2.2)))) else some (.inr z0))
set_option maxHeartbeats 4000000 in
set_option maxRecDepth 100000 in
theorem wb_L_provisional_77 {p : Program} {l : Launch} {e : Env} {s : State} {m : MethodId} {args : Array Value} {below : List Frame} {meth : Method} {c : Code} {D : va_G} {cy : Nat → ClassId} {ad : Nat → Nat} {b : Nat} {la : Nat → Nat → Nat} {ν : gM} {P : va_W} {z0 : Nat → Int64} {z1 : Nat} {z2 : Nat} {z3 : Nat → Nat} {μ : gM} {a1 : Nat} {a2 : Nat} {a4 : Nat} {o : ((Nat → Int64) × Nat × Nat × (Nat → Nat)) ⊕ ((Nat → Int64))} {RES : Nat → Int64} {cells slots C0 S0 CM SM : Nat} (h : b_L_provisional_77 z0 z1 z2 z3 ν μ = some o) (F : gF p s m meth c cX8_provisional RX8 6 (some (.array .long))) (E : hE l D cy ad b s) (hY : lY cy ad la ν P) (hc : cells + 12 ≤ C0) (hs : slots + 48 ≤ S0) (hcm : C0 ≤ CM) (hsm : S0 ≤ SM) (hcr : CM ≤ 111) (hsr : SM ≤ 460) (kc : ∀ (t : (Nat → Int64) × Nat × Nat × (Nat → Nat)) {H : Heap} {locs : List Loc} {ls : Array Slot}, o = .inl t → hW D cy ad b μ P ([(a1, .inl (cy 1, lPt ν, .inr (.inl t.1)))] ++ hdq cy ad a2 a4 t.2.1 t.2.2.1 t.2.2.2) H → va_S (hA b) s.heap H locs → lv_has ls 6 [(0, .ref (la 0 0)), (1, .ref a1), (2, .ref a2)] → W p l e ({ frames := 4, cells := 111, slots := 460, locals := 95 } : Room) s m args below meth c H locs C0 S0 (MQ below (hQ b (fun rv H => ∃ a, rv = some (.ref a) ∧ hW D cy ad b μ P [(a, .inl (cy 1, lPt ν, .inr (.inl RES)))] H)) args s 111 460 (hA b)) (F0 m 77 ls [])) (kx : ∀ (t : (Nat → Int64)) {H : Heap} {locs : List Loc} {ls : Array Slot}, o = .inr t → hW D cy ad b μ P [(a1, .inl (cy 1, lPt ν, .inr (.inl t)))] H → va_S (hA b) s.heap H locs → lv_has ls 6 [(1, .ref a1)] → W p l e ({ frames := 4, cells := 111, slots := 460, locals := 95 } : Room) s m args below meth c H locs CM SM (MQ below (hQ b (fun rv H => ∃ a, rv = some (.ref a) ∧ hW D cy ad b μ P [(a, .inl (cy 1, lPt ν, .inr (.inl RES)))] H)) args s 111 460 (hA b)) (F0 m 252 ls []))  {H : Heap} {locs : List Loc} {ls : Array Slot} (hM : hW D cy ad b μ P ([(a1, .inl (cy 1, lPt ν, .inr (.inl z0)))] ++ hdq cy ad a2 a4 z1 z2 z3) H) (hS : va_S (hA b) s.heap H locs) (hl : lv_has ls 6 [(0, .ref (la 0 0)), (1, .ref a1), (2, .ref a2)]) : W p l e ({ frames := 4, cells := 111, slots := 460, locals := 95 } : Room) s m args below meth c H locs cells slots (MQ below (hQ b (fun rv H => ∃ a, rv = some (.ref a) ∧ hW D cy ad b μ P [(a, .inl (cy 1, lPt ν, .inr (.inl RES)))] H)) args s 111 460 (hA b)) (F0 m 77 ls []) := by
  obtain ⟨hx, hb, hml, hown, hlocks, hr⟩ := id F
  unfold b_L_provisional_77 at h
  refine lv_aload_n hx hb dX8_provisional_77 rfl (lv_at hl 2 rfl) ?_
  obtain ⟨c15, h⟩ := gchk_e h
  replace hM := hW.right (X := [(a1, .inl (cy 1, lPt ν, .inr (.inl z0)))]) (T := (hdq cy ad a2 a4 z1 z2 z3)) hM
  refine h_callV (As := []) (rest := []) hx hb (hml.trans hl.1.symm) hown E hM hS xy_X10_isEmpty kw_1447 (cl_dqempty c15) (ht_m List.mem_cons_self) gC_X10.1 rfl rfl (Nat.le_of_ble_eq_true rfl) ⟨(Nat.le_of_ble_eq_true rfl), (Nat.le_of_ble_eq_true rfl)⟩ ⟨(show _ ≤ 111 by omega), (show _ ≤ 460 by omega)⟩ dX8_provisional_78 (fun rv H locs hZ hS => ?_)
  obtain ⟨rfl, hM⟩ := hZ
  replace hM := hW.left (X := [(a1, .inl (cy 1, lPt ν, .inr (.inl z0)))]) (T := (hdq cy ad a2 a4 z1 z2 z3)) hM
  refine lv_if_ne (tgt := 252) hx hb dX8_provisional_81 (by decide) (fun c16 => ?_) (fun c16 => ?_)
  · replace h := gif_f c16 h
    replace hM := hW.keep (X := [(a1, .inl (cy 1, lPt ν, .inr (.inl z0)))]) (T := (hdq cy ad a2 a4 z1 z2 z3)) hM
    refine W.widen (k := CM) (n := SM) (by omega) (by omega) ?_
    exact kx _ (Option.some.inj h).symm hM hS (lv_sub hl [1] rfl)
  · replace h := gif_t c16 h
    refine lv_aload_n hx hb dX8_provisional_84 rfl (lv_at hl 2 rfl) ?_
    obtain ⟨c17, h⟩ := gchk_e h
    replace hM := hW.right (X := [(a1, .inl (cy 1, lPt ν, .inr (.inl z0)))]) (T := (hdq cy ad a2 a4 z1 z2 z3)) hM
    refine h_callV (As := []) (rest := []) hx hb (hml.trans hl.1.symm) hown E hM hS xy_X10_pollFirst kw_1451 (c_dqpoll c17.1.1 c17.1.2) (ht_m List.mem_cons_self) gC_X10.1 rfl rfl (Nat.le_of_ble_eq_true rfl) ⟨(Nat.le_of_ble_eq_true rfl), (Nat.le_of_ble_eq_true rfl)⟩ ⟨(show _ ≤ 111 by omega), (show _ ≤ 460 by omega)⟩ dX8_provisional_85 (fun rv H locs hZ hS => ?_)
    obtain ⟨rfl, hM⟩ := hZ
    replace hM := hW.left (X := [(a1, .inl (cy 1, lPt ν, .inr (.inl z0)))]) (T := (hdq cy ad a2 a4 (z1 + 1) z2 z3)) hM
    refine h_castB hx hb hown E hS (k := 128 + (z3 z1)) (by omega) kw_1458 dX8_provisional_88 ?_
    replace hM := hW.low (T := ([(a1, .inl (cy 1, lPt ν, .inr (.inl z0)))] ++ hdq cy ad a2 a4 (z1 + 1) z2 z3)) hM
    refine h_callB (As := []) (rest := []) hx hb (hml.trans hl.1.symm) hown E hM hS xy_J6_intValue_8abf5 kw_1459 (k := 128 + (z3 z1)) (c_intValue (by omega)) (by omega) rfl rfl rfl (Nat.le_of_ble_eq_true rfl) ⟨(Nat.le_of_ble_eq_true rfl), (Nat.le_of_ble_eq_true rfl)⟩ ⟨(show _ ≤ 111 by omega), (show _ ≤ 460 by omega)⟩ dX8_provisional_91 (fun rv H locs hZ hS => ?_)
    obtain ⟨rfl, hM⟩ := hZ
    replace hM := hW.up (T := ([(a1, .inl (cy 1, lPt ν, .inr (.inl z0)))] ++ hdq cy ad a2 a4 (z1 + 1) z2 z3)) hM
    refine lv_istore_n (lv' := [(3, .int (nI (z3 z1))), (0, .ref (la 0 0)), (1, .ref a1), (2, .ref a2)]) hx hb dX8_provisional_94 rfl hl (by decide) rfl (fun ls hl => ?_)
    refine lv_iconst (v := (0 : Int32)) hx hb dX8_provisional_95 (by decide) ?_
    refine lv_istore (lv' := [(4, .int (0 : Int32)), (3, .int (nI (z3 z1))), (0, .ref (la 0 0)), (1, .ref a1), (2, .ref a2)]) hx hb dX8_provisional_96 hl (by decide) rfl (fun ls hl => ?_)
    obtain ⟨z46, h1, h⟩ := gbind_e h
    refine wl_L_provisional_98 (CM := cells + 12) (SM := slots + 48) F E hY  (by omega) (by omega) (r := z46) (fun q45 H locs ls e1 hM hS hl => ?_) 12 (0 : Int32) z0 (z1 + 1) z2 z3 (by omega) (by omega) h1 hM hS (lv_sub hl [2, 3, 4, 1, 0] rfl)
    replace e1 : z46 = q45 := e1
    rw [e1] at h
    refine lv_goto (tgt := 77) hx hb dX8_provisional_249 (by decide) ?_
    refine W.widen (k := C0) (n := S0) (by omega) (by omega) ?_
    exact kc _ (Option.some.inj h).symm hM hS hl
set_option maxHeartbeats 4000000 in
theorem wl_L_provisional_77 {p : Program} {l : Launch} {e : Env} {s : State} {m : MethodId} {args : Array Value} {below : List Frame} {meth : Method} {c : Code} {D : va_G} {cy : Nat → ClassId} {ad : Nat → Nat} {b : Nat} {la : Nat → Nat → Nat} {ν : gM} {P : va_W}   {μ : gM} {a1 : Nat} {a2 : Nat} {a4 : Nat} {r : (Nat → Int64)} {RES : Nat → Int64} {CM SM : Nat} (F : gF p s m meth c cX8_provisional RX8 6 (some (.array .long))) (E : hE l D cy ad b s) (hY : lY cy ad la ν P) (hcr : CM ≤ 111) (hsr : SM ≤ 460) (kx : ∀ (t : (Nat → Int64)) {H : Heap} {locs : List Loc} {ls : Array Slot}, r = t → hW D cy ad b μ P [(a1, .inl (cy 1, lPt ν, .inr (.inl t)))] H → va_S (hA b) s.heap H locs → lv_has ls 6 [(1, .ref a1)] → W p l e ({ frames := 4, cells := 111, slots := 460, locals := 95 } : Room) s m args below meth c H locs CM SM (MQ below (hQ b (fun rv H => ∃ a, rv = some (.ref a) ∧ hW D cy ad b μ P [(a, .inl (cy 1, lPt ν, .inr (.inl RES)))] H)) args s 111 460 (hA b)) (F0 m 252 ls []))  : ∀ (n : Nat)  (z0 : Nat → Int64) (z1 : Nat) (z2 : Nat) (z3 : Nat → Nat) {cells slots : Nat}, cells + n * 12 ≤ CM → slots + n * 48 ≤ SM → gloop (fun t => b_L_provisional_77  t.1 t.2.1 t.2.2.1 t.2.2.2 ν μ) n (z0, z1, z2, z3) = some r → ∀ {H : Heap} {locs : List Loc} {ls : Array Slot}, hW D cy ad b μ P ([(a1, .inl (cy 1, lPt ν, .inr (.inl z0)))] ++ hdq cy ad a2 a4 z1 z2 z3) H → va_S (hA b) s.heap H locs → lv_has ls 6 [(0, .ref (la 0 0)), (1, .ref a1), (2, .ref a2)] → W p l e ({ frames := 4, cells := 111, slots := 460, locals := 95 } : Room) s m args below meth c H locs cells slots (MQ below (hQ b (fun rv H => ∃ a, rv = some (.ref a) ∧ hW D cy ad b μ P [(a, .inl (cy 1, lPt ν, .inr (.inl RES)))] H)) args s 111 460 (hA b)) (F0 m 77 ls []) := by
  intro n
  induction n with
  | zero =>
    intro z0 z1 z2 z3 cells slots hc hs h
    exact (gloop_0 h).elim
  | succ n ih =>
    intro z0 z1 z2 z3 cells slots hc hs h H locs ls hM hS hl
    obtain ⟨o, h0, hcc, hq⟩ := gloop_s h
    have h1 : b_L_provisional_77 z0 z1 z2 z3 ν μ = some o := h0
    exact wb_L_provisional_77 (C0 := cells + 12) (S0 := slots + 48) (CM := CM) (SM := SM) h1 F E hY  (by omega) (by omega) (by omega) (by omega) hcr hsr (fun t H locs ls ho hM hS hl => ih t.1 t.2.1 t.2.2.1 t.2.2.2 (by omega) (by omega) (hcc t ho) hM hS hl) (fun t H locs ls ho hM hS hl => kx t (hq _ ho).symm hM hS hl) hM hS hl
def f_L_provisional  (ν μ : gM) : Option (Nat → Int64) :=
  Option.bind (gloop (fun t => b_L_provisional_17  t.1 t.2.1 t.2.2.1 t.2.2.2.1 t.2.2.2.2 ν μ) 9 ((0 : Int32), (fun _ => 0), 0, 0, (fun _ => 0))) (fun q14 => Option.bind (gloop (fun t => b_L_provisional_77  t.1 t.2.1 t.2.2.1 t.2.2.2 ν μ) 9 (q14.1, q14.2.1, q14.2.2.1, q14.2.2.2)) (fun q47 => some q47))
set_option maxHeartbeats 4000000 in
set_option maxRecDepth 100000 in
theorem c_L_provisional {l : Launch} {D : va_G} {cy : Nat → ClassId} {ad : Nat → Nat} {b : Nat} {la : Nat → Nat → Nat} {μ ν : gM} {P : va_W}  {RES : Nat → Int64} (hY : lY cy ad la ν P) (h : f_L_provisional  ν μ = some RES) : Met l yX8_provisional [.code yX8_provisional cX8_provisional 6 (some (.array .long))] ({ frames := 4, cells := 111, slots := 460, locals := 95 } : Room) (va_Pc [.ref (la 0 0)] (hB l D cy ad b μ P [])) (hQ b (fun rv H => ∃ a, rv = some (.ref a) ∧ hW D cy ad b μ P [(a, .inl (cy 1, lPt ν, .inr (.inl RES)))] H)) 111 460 (hA b) := by
  refine Met.ofW (cc := cX8_provisional) (maxL := 6) (ret := (some (.array .long))) (by decide +kernel) rfl ?_
  intro p e s m args below meth c s₁ B hml0 hv
  obtain ⟨rfl, E, hM⟩ := hv
  have F : gF p s m meth c cX8_provisional RX8 6 (some (.array .long)) := gF_of B hml0
  obtain ⟨hx, hb, hml, hown, hlocks, hr⟩ := id F
  have hS : va_S (hA b) s.heap s.heap [] := va_S.rf
  have hl := lv_entry ([.ref (la 0 0)]) (n := 6) (Nat.le_of_ble_eq_true rfl)
  rw [lg_entry_eq]
  generalize (lg_sl ([.ref (la 0 0)]) ++ List.replicate (6 - (lg_sl ([.ref (la 0 0)])).length) Slot.unset).toArray = ls at hl ⊢
  have hl : lv_has ls 6 [(0, .ref (la 0 0))] := hl
  unfold f_L_provisional at h
  refine lv_aload_n hx hb dX8_provisional_0 rfl (lv_at hl 0 rfl) ?_
  refine h_get hx hb hown E hM (hp_m (hY.c1 0 rfl)) gC_X8 1 (by decide) (v := .int (gi ν 0 1)) rfl kw_1025 dX8_provisional_1 ?_
  rw [hY.2.2.1.2]
  refine l_newJ hx hb E hM hS hY.2.2.1.1 (show _ ≤ 111 by omega) (show _ ≤ 460 by omega) dX8_provisional_4 (fun a1 H hM hS => ?_)
  refine lv_astore_n (lv' := [(1, .ref a1), (0, .ref (la 0 0))]) hx hb dX8_provisional_6 rfl hl (by decide) rfl (fun ls hl => ?_)
  refine h_new hx hb hown E hM hS gC_X10 kw_1389 kw_1390 kw_80 (fs := [.null, .int (0 : Int32), .int (0 : Int32)]) (by decide +kernel) (show _ ≤ 111 by omega) (show _ ≤ 460 by omega) dX8_provisional_7 (fun a2 H hM hS => ?_)
  replace hM : hW D cy ad b μ P [(a1, .inl (cy 1, lPt ν, .inr (.inl (fun _ => 0)))), (a2, .inr (14, [.null, .int (0 : Int32), .int (0 : Int32)]))] H := hM
  refine lv_dup hx hb dX8_provisional_10 rfl ?_
  replace hM := hW.right (X := [(a1, .inl (cy 1, lPt ν, .inr (.inl (fun _ => 0))))]) (T := [(a2, .inr (14, [.null, .int (0 : Int32), .int (0 : Int32)]))]) hM
  refine h_callI (As := []) (rest := [.ref a2]) hx hb (hml.trans hl.1.symm) hown E hM hS xi_X10_init kw_1391 (c_dqinit (q := fun _ => 0)) rfl rfl (Nat.le_of_ble_eq_true rfl) ⟨(Nat.le_of_ble_eq_true rfl), (Nat.le_of_ble_eq_true rfl)⟩ ⟨(show _ ≤ 111 by omega), (show _ ≤ 460 by omega)⟩ dX8_provisional_11 (fun rv H locs hZ hS => ?_)
  obtain ⟨a4, rfl, hM⟩ := hZ
  replace hM := hW.left (X := [(a1, .inl (cy 1, lPt ν, .inr (.inl (fun _ => 0))))]) (T := (hdq cy ad a2 a4 0 0 (fun _ => 0))) hM
  refine lv_astore_n (lv' := [(2, .ref a2), (1, .ref a1), (0, .ref (la 0 0))]) hx hb dX8_provisional_14 rfl hl (by decide) rfl (fun ls hl => ?_)
  refine lv_iconst (v := (0 : Int32)) hx hb dX8_provisional_15 (by decide) ?_
  refine lv_istore_n (lv' := [(3, .int (0 : Int32)), (2, .ref a2), (1, .ref a1), (0, .ref (la 0 0))]) hx hb dX8_provisional_16 rfl hl (by decide) rfl (fun ls hl => ?_)
  obtain ⟨z49, h1, h⟩ := gbind_e h
  refine wl_L_provisional_17 (CM := 3) (SM := 28) F E hY  (by omega) (by omega) (r := z49) (fun q14 H locs ls e1 hM hS hl => ?_) 9 (0 : Int32) (fun _ => 0) 0 0 (fun _ => 0) (by omega) (by omega) h1 hM hS (lv_sub hl [3, 2, 1, 0] rfl)
  replace e1 : z49 = q14 := e1
  rw [e1] at h
  obtain ⟨z48, h1, h⟩ := gbind_e h
  refine wl_L_provisional_77 (CM := 111) (SM := 460) F E hY  (by omega) (by omega) (r := z48) (fun q47 H locs ls e1 hM hS hl => ?_) 9 q14.1 q14.2.1 q14.2.2.1 q14.2.2.2 (by omega) (by omega) h1 hM hS hl
  replace e1 : z48 = q47 := e1
  rw [e1] at h
  refine lv_aload_n hx hb dX8_provisional_252 rfl (lv_at hl 0 rfl) ?_
  obtain rfl := Option.some.inj h
  exact h_aret hx hb hr (Or.inr ⟨_, rfl⟩) hlocks (by omega) (by omega) ⟨_, rfl, hM⟩ hS dX8_provisional_253

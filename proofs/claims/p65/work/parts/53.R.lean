theorem dX8_isWay_0 : decode cX8_isWay 0 = .ok (.aload_n 3, 1) := by decide +kernel
theorem dX8_isWay_1 : decode cX8_isWay 1 = .ok (.iload_n 1, 1) := by decide +kernel
theorem dX8_isWay_2 : decode cX8_isWay 2 = .ok (.aaload, 1) := by decide +kernel
theorem dX8_isWay_3 : decode cX8_isWay 3 = .ok (.iload_n 2, 1) := by decide +kernel
theorem dX8_isWay_4 : decode cX8_isWay 4 = .ok (.iaload, 1) := by decide +kernel
theorem dX8_isWay_5 : decode cX8_isWay 5 = .ok (.ldc 156, 2) := by decide +kernel
theorem dX8_isWay_7 : decode cX8_isWay 7 = .ok (.if_icmp .lt 35, 3) := by decide +kernel
theorem dX8_isWay_10 : decode cX8_isWay 10 = .ok (.aload_n 0, 1) := by decide +kernel
theorem dX8_isWay_11 : decode cX8_isWay 11 = .ok (.getfield 12, 3) := by decide +kernel
theorem dX8_isWay_14 : decode cX8_isWay 14 = .ok (.iload_n 1, 1) := by decide +kernel
theorem dX8_isWay_15 : decode cX8_isWay 15 = .ok (.iload_n 2, 1) := by decide +kernel
theorem dX8_isWay_16 : decode cX8_isWay 16 = .ok (.invokevirtual 197, 3) := by decide +kernel
theorem dX8_isWay_19 : decode cX8_isWay 19 = .ok (.ldc 200, 2) := by decide +kernel
theorem dX8_isWay_21 : decode cX8_isWay 21 = .ok (.if_icmp .ne 19, 3) := by decide +kernel
theorem dX8_isWay_24 : decode cX8_isWay 24 = .ok (.aload_n 0, 1) := by decide +kernel
theorem dX8_isWay_25 : decode cX8_isWay 25 = .ok (.getfield 12, 3) := by decide +kernel
theorem dX8_isWay_28 : decode cX8_isWay 28 = .ok (.iload_n 1, 1) := by decide +kernel
theorem dX8_isWay_29 : decode cX8_isWay 29 = .ok (.iload_n 2, 1) := by decide +kernel
theorem dX8_isWay_30 : decode cX8_isWay 30 = .ok (.invokevirtual 201, 3) := by decide +kernel
theorem dX8_isWay_33 : decode cX8_isWay 33 = .ok (.ifCond .ne 7, 3) := by decide +kernel
theorem dX8_isWay_36 : decode cX8_isWay 36 = .ok (.iconst 1, 1) := by decide +kernel
theorem dX8_isWay_37 : decode cX8_isWay 37 = .ok (.goto 4, 3) := by decide +kernel
theorem dX8_isWay_40 : decode cX8_isWay 40 = .ok (.iconst 0, 1) := by decide +kernel
theorem dX8_isWay_41 : decode cX8_isWay 41 = .ok (.ireturn, 1) := by decide +kernel
theorem dX8_isWay_42 : decode cX8_isWay 42 = .ok (.iload_n 2, 1) := by decide +kernel
theorem dX8_isWay_43 : decode cX8_isWay 43 = .ok (.istore 4, 2) := by decide +kernel
theorem dX8_isWay_45 : decode cX8_isWay 45 = .ok (.iconst 0, 1) := by decide +kernel
theorem dX8_isWay_46 : decode cX8_isWay 46 = .ok (.istore 5, 2) := by decide +kernel
theorem dX8_isWay_48 : decode cX8_isWay 48 = .ok (.iconst 0, 1) := by decide +kernel
theorem dX8_isWay_49 : decode cX8_isWay 49 = .ok (.istore 6, 2) := by decide +kernel
theorem dX8_isWay_51 : decode cX8_isWay 51 = .ok (.iload 4, 2) := by decide +kernel
theorem dX8_isWay_53 : decode cX8_isWay 53 = .ok (.iload_n 1, 1) := by decide +kernel
theorem dX8_isWay_54 : decode cX8_isWay 54 = .ok (.if_icmp .eq 178, 3) := by decide +kernel
theorem dX8_isWay_57 : decode cX8_isWay 57 = .ok (.iconst 0, 1) := by decide +kernel
theorem dX8_isWay_58 : decode cX8_isWay 58 = .ok (.istore 7, 2) := by decide +kernel
theorem dX8_isWay_60 : decode cX8_isWay 60 = .ok (.iload 7, 2) := by decide +kernel
theorem dX8_isWay_62 : decode cX8_isWay 62 = .ok (.aload_n 0, 1) := by decide +kernel
theorem dX8_isWay_63 : decode cX8_isWay 63 = .ok (.getfield 47, 3) := by decide +kernel
theorem dX8_isWay_66 : decode cX8_isWay 66 = .ok (.if_icmp .ge 163, 3) := by decide +kernel
theorem dX8_isWay_69 : decode cX8_isWay 69 = .ok (.aload_n 0, 1) := by decide +kernel
theorem dX8_isWay_70 : decode cX8_isWay 70 = .ok (.getfield 58, 3) := by decide +kernel
theorem dX8_isWay_73 : decode cX8_isWay 73 = .ok (.iload 7, 2) := by decide +kernel
theorem dX8_isWay_75 : decode cX8_isWay 75 = .ok (.baload, 1) := by decide +kernel
theorem dX8_isWay_76 : decode cX8_isWay 76 = .ok (.ifCond .eq 147, 3) := by decide +kernel
theorem dX8_isWay_79 : decode cX8_isWay 79 = .ok (.aload_n 0, 1) := by decide +kernel
theorem dX8_isWay_80 : decode cX8_isWay 80 = .ok (.getfield 52, 3) := by decide +kernel
theorem dX8_isWay_83 : decode cX8_isWay 83 = .ok (.iload 7, 2) := by decide +kernel
theorem dX8_isWay_85 : decode cX8_isWay 85 = .ok (.aaload, 1) := by decide +kernel
theorem dX8_isWay_86 : decode cX8_isWay 86 = .ok (.iconst 0, 1) := by decide +kernel
theorem dX8_isWay_87 : decode cX8_isWay 87 = .ok (.iaload, 1) := by decide +kernel
theorem dX8_isWay_88 : decode cX8_isWay 88 = .ok (.iload 4, 2) := by decide +kernel
theorem dX8_isWay_90 : decode cX8_isWay 90 = .ok (.if_icmp .eq 20, 3) := by decide +kernel
theorem dX8_isWay_93 : decode cX8_isWay 93 = .ok (.aload_n 0, 1) := by decide +kernel
theorem dX8_isWay_94 : decode cX8_isWay 94 = .ok (.getfield 52, 3) := by decide +kernel
theorem dX8_isWay_97 : decode cX8_isWay 97 = .ok (.iload 7, 2) := by decide +kernel
theorem dX8_isWay_99 : decode cX8_isWay 99 = .ok (.aaload, 1) := by decide +kernel
theorem dX8_isWay_100 : decode cX8_isWay 100 = .ok (.iconst 1, 1) := by decide +kernel
theorem dX8_isWay_101 : decode cX8_isWay 101 = .ok (.iaload, 1) := by decide +kernel
theorem dX8_isWay_102 : decode cX8_isWay 102 = .ok (.iload 4, 2) := by decide +kernel
theorem dX8_isWay_104 : decode cX8_isWay 104 = .ok (.if_icmp .eq 6, 3) := by decide +kernel
theorem dX8_isWay_107 : decode cX8_isWay 107 = .ok (.goto 116, 3) := by decide +kernel
theorem dX8_isWay_110 : decode cX8_isWay 110 = .ok (.aload_n 0, 1) := by decide +kernel
theorem dX8_isWay_111 : decode cX8_isWay 111 = .ok (.getfield 52, 3) := by decide +kernel
theorem dX8_isWay_114 : decode cX8_isWay 114 = .ok (.iload 7, 2) := by decide +kernel
theorem dX8_isWay_116 : decode cX8_isWay 116 = .ok (.aaload, 1) := by decide +kernel
theorem dX8_isWay_117 : decode cX8_isWay 117 = .ok (.iconst 0, 1) := by decide +kernel
theorem dX8_isWay_118 : decode cX8_isWay 118 = .ok (.iaload, 1) := by decide +kernel
theorem dX8_isWay_119 : decode cX8_isWay 119 = .ok (.iload 4, 2) := by decide +kernel
theorem dX8_isWay_121 : decode cX8_isWay 121 = .ok (.if_icmp .ne 15, 3) := by decide +kernel
theorem dX8_isWay_124 : decode cX8_isWay 124 = .ok (.aload_n 0, 1) := by decide +kernel
theorem dX8_isWay_125 : decode cX8_isWay 125 = .ok (.getfield 52, 3) := by decide +kernel
theorem dX8_isWay_128 : decode cX8_isWay 128 = .ok (.iload 7, 2) := by decide +kernel
theorem dX8_isWay_130 : decode cX8_isWay 130 = .ok (.aaload, 1) := by decide +kernel
theorem dX8_isWay_131 : decode cX8_isWay 131 = .ok (.iconst 1, 1) := by decide +kernel
theorem dX8_isWay_132 : decode cX8_isWay 132 = .ok (.iaload, 1) := by decide +kernel
theorem dX8_isWay_133 : decode cX8_isWay 133 = .ok (.goto 12, 3) := by decide +kernel
theorem dX8_isWay_136 : decode cX8_isWay 136 = .ok (.aload_n 0, 1) := by decide +kernel
theorem dX8_isWay_137 : decode cX8_isWay 137 = .ok (.getfield 52, 3) := by decide +kernel
theorem dX8_isWay_140 : decode cX8_isWay 140 = .ok (.iload 7, 2) := by decide +kernel
theorem dX8_isWay_142 : decode cX8_isWay 142 = .ok (.aaload, 1) := by decide +kernel
theorem dX8_isWay_143 : decode cX8_isWay 143 = .ok (.iconst 0, 1) := by decide +kernel
theorem dX8_isWay_144 : decode cX8_isWay 144 = .ok (.iaload, 1) := by decide +kernel
theorem dX8_isWay_145 : decode cX8_isWay 145 = .ok (.istore 8, 2) := by decide +kernel
theorem dX8_isWay_147 : decode cX8_isWay 147 = .ok (.aload_n 3, 1) := by decide +kernel
theorem dX8_isWay_148 : decode cX8_isWay 148 = .ok (.iload_n 1, 1) := by decide +kernel
theorem dX8_isWay_149 : decode cX8_isWay 149 = .ok (.aaload, 1) := by decide +kernel
theorem dX8_isWay_150 : decode cX8_isWay 150 = .ok (.iload 8, 2) := by decide +kernel
theorem dX8_isWay_152 : decode cX8_isWay 152 = .ok (.iaload, 1) := by decide +kernel
theorem dX8_isWay_153 : decode cX8_isWay 153 = .ok (.aload_n 0, 1) := by decide +kernel
theorem dX8_isWay_154 : decode cX8_isWay 154 = .ok (.iload 7, 2) := by decide +kernel
theorem dX8_isWay_156 : decode cX8_isWay 156 = .ok (.invokevirtual 157, 3) := by decide +kernel
theorem dX8_isWay_159 : decode cX8_isWay 159 = .ok (.iadd, 1) := by decide +kernel
theorem dX8_isWay_160 : decode cX8_isWay 160 = .ok (.aload_n 3, 1) := by decide +kernel
theorem dX8_isWay_161 : decode cX8_isWay 161 = .ok (.iload_n 1, 1) := by decide +kernel
theorem dX8_isWay_162 : decode cX8_isWay 162 = .ok (.aaload, 1) := by decide +kernel
theorem dX8_isWay_163 : decode cX8_isWay 163 = .ok (.iload 4, 2) := by decide +kernel
theorem dX8_isWay_165 : decode cX8_isWay 165 = .ok (.iaload, 1) := by decide +kernel
theorem dX8_isWay_166 : decode cX8_isWay 166 = .ok (.if_icmp .eq 6, 3) := by decide +kernel
theorem dX8_isWay_169 : decode cX8_isWay 169 = .ok (.goto 54, 3) := by decide +kernel
theorem dX8_isWay_172 : decode cX8_isWay 172 = .ok (.iload 5, 2) := by decide +kernel
theorem dX8_isWay_174 : decode cX8_isWay 174 = .ok (.iconst 1, 1) := by decide +kernel
theorem dX8_isWay_175 : decode cX8_isWay 175 = .ok (.iload 7, 2) := by decide +kernel
theorem dX8_isWay_177 : decode cX8_isWay 177 = .ok (.ishl, 1) := by decide +kernel
theorem dX8_isWay_178 : decode cX8_isWay 178 = .ok (.ior, 1) := by decide +kernel
theorem dX8_isWay_179 : decode cX8_isWay 179 = .ok (.istore 5, 2) := by decide +kernel
theorem dX8_isWay_181 : decode cX8_isWay 181 = .ok (.iload 6, 2) := by decide +kernel
theorem dX8_isWay_183 : decode cX8_isWay 183 = .ok (.aload_n 0, 1) := by decide +kernel
theorem dX8_isWay_184 : decode cX8_isWay 184 = .ok (.getfield 52, 3) := by decide +kernel
theorem dX8_isWay_187 : decode cX8_isWay 187 = .ok (.iload 7, 2) := by decide +kernel
theorem dX8_isWay_189 : decode cX8_isWay 189 = .ok (.aaload, 1) := by decide +kernel
theorem dX8_isWay_190 : decode cX8_isWay 190 = .ok (.iconst 1, 1) := by decide +kernel
theorem dX8_isWay_191 : decode cX8_isWay 191 = .ok (.iaload, 1) := by decide +kernel
theorem dX8_isWay_192 : decode cX8_isWay 192 = .ok (.iload 4, 2) := by decide +kernel
theorem dX8_isWay_194 : decode cX8_isWay 194 = .ok (.if_icmp .ne 12, 3) := by decide +kernel
theorem dX8_isWay_197 : decode cX8_isWay 197 = .ok (.aload_n 0, 1) := by decide +kernel
theorem dX8_isWay_198 : decode cX8_isWay 198 = .ok (.iload 7, 2) := by decide +kernel
theorem dX8_isWay_200 : decode cX8_isWay 200 = .ok (.invokevirtual 165, 3) := by decide +kernel
theorem dX8_isWay_203 : decode cX8_isWay 203 = .ok (.goto 10, 3) := by decide +kernel
theorem dX8_isWay_206 : decode cX8_isWay 206 = .ok (.aload_n 0, 1) := by decide +kernel
theorem dX8_isWay_207 : decode cX8_isWay 207 = .ok (.iload 7, 2) := by decide +kernel
theorem dX8_isWay_209 : decode cX8_isWay 209 = .ok (.invokevirtual 165, 3) := by decide +kernel
theorem dX8_isWay_212 : decode cX8_isWay 212 = .ok (.ineg, 1) := by decide +kernel
theorem dX8_isWay_213 : decode cX8_isWay 213 = .ok (.iadd, 1) := by decide +kernel
theorem dX8_isWay_214 : decode cX8_isWay 214 = .ok (.istore 6, 2) := by decide +kernel
theorem dX8_isWay_216 : decode cX8_isWay 216 = .ok (.iload 8, 2) := by decide +kernel
theorem dX8_isWay_218 : decode cX8_isWay 218 = .ok (.istore 4, 2) := by decide +kernel
theorem dX8_isWay_220 : decode cX8_isWay 220 = .ok (.goto 9, 3) := by decide +kernel
theorem dX8_isWay_223 : decode cX8_isWay 223 = .ok (.iinc 7 1, 3) := by decide +kernel
theorem dX8_isWay_226 : decode cX8_isWay 226 = .ok (.goto (-166), 3) := by decide +kernel
theorem dX8_isWay_229 : decode cX8_isWay 229 = .ok (.goto (-178), 3) := by decide +kernel
theorem dX8_isWay_232 : decode cX8_isWay 232 = .ok (.aload_n 0, 1) := by decide +kernel
theorem dX8_isWay_233 : decode cX8_isWay 233 = .ok (.getfield 12, 3) := by decide +kernel
theorem dX8_isWay_236 : decode cX8_isWay 236 = .ok (.iload_n 1, 1) := by decide +kernel
theorem dX8_isWay_237 : decode cX8_isWay 237 = .ok (.iload_n 2, 1) := by decide +kernel
theorem dX8_isWay_238 : decode cX8_isWay 238 = .ok (.invokevirtual 201, 3) := by decide +kernel
theorem dX8_isWay_241 : decode cX8_isWay 241 = .ok (.iload 5, 2) := by decide +kernel
theorem dX8_isWay_243 : decode cX8_isWay 243 = .ok (.if_icmp .ne 21, 3) := by decide +kernel
theorem dX8_isWay_246 : decode cX8_isWay 246 = .ok (.aload_n 0, 1) := by decide +kernel
theorem dX8_isWay_247 : decode cX8_isWay 247 = .ok (.getfield 12, 3) := by decide +kernel
theorem dX8_isWay_250 : decode cX8_isWay 250 = .ok (.iload_n 1, 1) := by decide +kernel
theorem dX8_isWay_251 : decode cX8_isWay 251 = .ok (.iload_n 2, 1) := by decide +kernel
theorem dX8_isWay_252 : decode cX8_isWay 252 = .ok (.invokevirtual 197, 3) := by decide +kernel
theorem dX8_isWay_255 : decode cX8_isWay 255 = .ok (.iload 6, 2) := by decide +kernel
theorem dX8_isWay_257 : decode cX8_isWay 257 = .ok (.if_icmp .ne 7, 3) := by decide +kernel
theorem dX8_isWay_260 : decode cX8_isWay 260 = .ok (.iconst 1, 1) := by decide +kernel
theorem dX8_isWay_261 : decode cX8_isWay 261 = .ok (.goto 4, 3) := by decide +kernel
theorem dX8_isWay_264 : decode cX8_isWay 264 = .ok (.iconst 0, 1) := by decide +kernel
theorem dX8_isWay_265 : decode cX8_isWay 265 = .ok (.ireturn, 1) := by decide +kernel
def j_L_isWay_145 (x1 : Int32) (x2 : Int32) (x4 : Int32) (x5 : Int32) (x6 : Int32) (x7 : Int32) (y0 : Int32) (M : Nat → Nat → Int32) (ν μ : gM) : Option ((Int32 × Int32 × Int32 × Int32) ⊕ (Int32 × Int32 × Int32)) :=
  gchk (gIn x1 (lPt ν)) (gchk (gIn y0 (lPt ν)) (Option.bind (f_L_length x7 ν μ) (fun q18 => gchk (gIn x1 (lPt ν)) (gchk (gIn x4 (lPt ν)) (if (((M x1.toNatClampNeg y0.toNatClampNeg) + q18) = (M x1.toNatClampNeg x4.toNatClampNeg)) then gchk (gIn x7 (lLn ν)) (if ((gi ν (20 + x7.toNatClampNeg) 1) = x4) then Option.bind (f_L_rise x7 ν μ) (fun q26 => some (.inr (y0, (x5 ||| ((1 : Int32) <<< (x7 &&& 31))), (x6 + q26)))) else Option.bind (f_L_rise x7 ν μ) (fun q25 => some (.inr (y0, (x5 ||| ((1 : Int32) <<< (x7 &&& 31))), (x6 + (-q25)))))) else some (.inl (x4, x5, x6, (x7 + (1 : Int32)))))))))
set_option maxHeartbeats 4000000 in
set_option maxRecDepth 100000 in
theorem wj_L_isWay_145 {p : Program} {l : Launch} {e : Env} {s : State} {m : MethodId} {args : Array Value} {below : List Frame} {meth : Method} {c : Code} {D : va_G} {cy : Nat → ClassId} {ad : Nat → Nat} {b : Nat} {la : Nat → Nat → Nat} {ν : gM} {P P0 : va_W} {x1 : Int32} {x2 : Int32} {x4 : Int32} {x5 : Int32} {x6 : Int32} {x7 : Int32} {y0 : Int32} {M : Nat → Nat → Int32} {μ : gM}  {o : (Int32 × Int32 × Int32 × Int32) ⊕ (Int32 × Int32 × Int32)} {RES : (Bool) × gM} {cells slots C0 S0 CM SM : Nat} (h : j_L_isWay_145 x1 x2 x4 x5 x6 x7 y0 M ν μ = some o) (F : gF p s m meth c cX8_isWay RX8 9 (some .boolean)) (E : hE l D cy ad b s) (hY : lY cy ad la ν P) (hPd : ∀ (μ : gM) (H : Heap), hW D cy ad b μ P [] H → hW D cy ad b μ P0 [] H) {da0 : Nat} {dr0 : Nat → Nat} (hD0 : ∀ x ∈ hmat cy da0 dr0 (lPt ν) M, x ∈ P) (hc : cells + 2 ≤ C0) (hs : slots + 8 ≤ S0) (hcm : C0 ≤ CM) (hsm : S0 ≤ SM) (hcr : CM ≤ 216) (hsr : SM ≤ 864) (kc : ∀ (t : Int32 × Int32 × Int32 × Int32) {H : Heap} {locs : List Loc} {ls : Array Slot}, o = .inl t → hW D cy ad b μ P [] H → va_S (hA b) s.heap H locs → lv_has ls 9 [(0, .ref (la 0 0)), (1, .int x1), (2, .int x2), (3, .ref da0), (4, .int t.1), (5, .int t.2.1), (6, .int t.2.2.1), (7, .int t.2.2.2)] → W p l e ({ frames := 6, cells := 216, slots := 864, locals := 138 } : Room) s m args below meth c H locs C0 S0 (MQ below (hQ b (fun rv H => rv = some (.int (b2i RES.1)) ∧ hW D cy ad b RES.2 P0 [] H)) args s 216 864 (hA b)) (F0 m 60 ls [])) (kx : ∀ (t : Int32 × Int32 × Int32) {H : Heap} {locs : List Loc} {ls : Array Slot}, o = .inr t → hW D cy ad b μ P [] H → va_S (hA b) s.heap H locs → lv_has ls 9 [(0, .ref (la 0 0)), (1, .int x1), (2, .int x2), (3, .ref da0), (4, .int t.1), (5, .int t.2.1), (6, .int t.2.2)] → W p l e ({ frames := 6, cells := 216, slots := 864, locals := 138 } : Room) s m args below meth c H locs CM SM (MQ below (hQ b (fun rv H => rv = some (.int (b2i RES.1)) ∧ hW D cy ad b RES.2 P0 [] H)) args s 216 864 (hA b)) (F0 m 229 ls []))  {H : Heap} {locs : List Loc} {ls : Array Slot} (hM : hW D cy ad b μ P [] H) (hS : va_S (hA b) s.heap H locs) (hl : lv_has ls 9 [(0, .ref (la 0 0)), (1, .int x1), (2, .int x2), (3, .ref da0), (4, .int x4), (5, .int x5), (6, .int x6), (7, .int x7)]) : W p l e ({ frames := 6, cells := 216, slots := 864, locals := 138 } : Room) s m args below meth c H locs cells slots (MQ below (hQ b (fun rv H => rv = some (.int (b2i RES.1)) ∧ hW D cy ad b RES.2 P0 [] H)) args s 216 864 (hA b)) (F0 m 145 ls [.int y0]) := by
  obtain ⟨hx, hb, hml, hown, hlocks, hr⟩ := id F
  unfold j_L_isWay_145 at h
  refine lv_istore (lv' := [(8, .int y0), (0, .ref (la 0 0)), (1, .int x1), (2, .int x2), (3, .ref da0), (4, .int x4), (5, .int x5), (6, .int x6), (7, .int x7)]) hx hb dX8_isWay_145 hl (by decide) rfl (fun ls hl => ?_)
  refine lv_aload_n hx hb dX8_isWay_147 rfl (lv_at hl 4 rfl) ?_
  refine lv_iload_n hx hb dX8_isWay_148 rfl (lv_at hl 2 rfl) ?_
  obtain ⟨c16, h⟩ := gchk_e h
  refine h_rald hx hb E hM (hp_m (hD0 _ hmat_o)) c16 (v := .ref (dr0 x1.toNatClampNeg)) (x_lrf c16) dX8_isWay_149 ?_
  refine lv_iload hx hb dX8_isWay_150 (lv_at hl 0 rfl) ?_
  obtain ⟨c17, h⟩ := gchk_e h
  refine l_iald hx hb E hM (hp_m (hD0 _ (hmat_r c16.2))) c17 (v := (M x1.toNatClampNeg y0.toNatClampNeg)) rfl dX8_isWay_152 ?_
  refine lv_aload_n hx hb dX8_isWay_153 rfl (lv_at hl 1 rfl) ?_
  refine lv_iload hx hb dX8_isWay_154 (lv_at hl 8 rfl) ?_
  obtain ⟨q18, hq18, h⟩ := gbind_e h
  refine h_callV (As := [.int x7]) (rest := [.int (M x1.toNatClampNeg y0.toNatClampNeg)]) hx hb (hml.trans hl.1.symm) hown E hM hS xy_X8_length kw_1207 (c_L_length hY hq18) (hp_m (hY.c1 0 rfl)) gC_X8.1 rfl rfl (Nat.le_of_ble_eq_true rfl) ⟨(Nat.le_of_ble_eq_true rfl), (Nat.le_of_ble_eq_true rfl)⟩ ⟨(show _ ≤ 216 by omega), (show _ ≤ 864 by omega)⟩ dX8_isWay_156 (fun rv H locs hZ hS => ?_)
  obtain ⟨rfl, hM⟩ := hZ
  refine lv_iadd hx hb dX8_isWay_159 ?_
  refine lv_aload_n hx hb dX8_isWay_160 rfl (lv_at hl 4 rfl) ?_
  refine lv_iload_n hx hb dX8_isWay_161 rfl (lv_at hl 2 rfl) ?_
  obtain ⟨c19, h⟩ := gchk_e h
  refine h_rald hx hb E hM (hp_m (hD0 _ hmat_o)) c19 (v := .ref (dr0 x1.toNatClampNeg)) (x_lrf c19) dX8_isWay_162 ?_
  refine lv_iload hx hb dX8_isWay_163 (lv_at hl 5 rfl) ?_
  obtain ⟨c20, h⟩ := gchk_e h
  refine l_iald hx hb E hM (hp_m (hD0 _ (hmat_r c19.2))) c20 (v := (M x1.toNatClampNeg x4.toNatClampNeg)) rfl dX8_isWay_165 ?_
  refine lv_icmp_eq (tgt := 172) hx hb dX8_isWay_166 (by decide) (fun c21 => ?_) (fun c21 => ?_)
  · replace h := gif_t c21 h
    refine lv_iload hx hb dX8_isWay_172 (lv_at hl 6 rfl) ?_
    refine lv_iconst (v := (1 : Int32)) hx hb dX8_isWay_174 (by decide) ?_
    refine lv_iload hx hb dX8_isWay_175 (lv_at hl 8 rfl) ?_
    refine lv_ishl hx hb dX8_isWay_177 ?_
    refine lv_ior hx hb dX8_isWay_178 ?_
    refine lv_istore (lv' := [(5, .int (x5 ||| ((1 : Int32) <<< (x7 &&& 31)))), (8, .int y0), (0, .ref (la 0 0)), (1, .int x1), (2, .int x2), (3, .ref da0), (4, .int x4), (6, .int x6), (7, .int x7)]) hx hb dX8_isWay_179 hl (by decide) rfl (fun ls hl => ?_)
    refine lv_iload hx hb dX8_isWay_181 (lv_at hl 7 rfl) ?_
    refine lv_aload_n hx hb dX8_isWay_183 rfl (lv_at hl 2 rfl) ?_
    refine h_get hx hb hown E hM (hp_m (hY.c1 0 rfl)) gC_X8 5 (by decide) (v := .ref (la 3 0)) rfl kw_1029 dX8_isWay_184 ?_
    refine lv_iload hx hb dX8_isWay_187 (lv_at hl 8 rfl) ?_
    obtain ⟨c22, h⟩ := gchk_e h
    refine h_rald hx hb E hM (hp_m (hY.c1 3 rfl)) c22 (v := .ref (la 20 x7.toNatClampNeg)) (x_lrf c22) dX8_isWay_189 ?_
    refine lv_iconst (v := (1 : Int32)) hx hb dX8_isWay_190 (by decide) ?_
    refine l_iald hx hb E hM (hp_m (hY.c2 c22.2 0 rfl)) (⟨by decide, by decide⟩ : gIn (1 : Int32) 2) (v := (gi ν (20 + x7.toNatClampNeg) 1)) (congrArg (ν.1 (20 + x7.toNatClampNeg)) (by decide : (1 : Int32).toNatClampNeg = 1)) dX8_isWay_191 ?_
    refine lv_iload hx hb dX8_isWay_192 (lv_at hl 6 rfl) ?_
    refine lv_icmp_ne (tgt := 206) hx hb dX8_isWay_194 (by decide) (fun c24 => ?_) (fun c24 => ?_)
    · replace h := gif_f c24 h
      refine lv_aload_n hx hb dX8_isWay_206 rfl (lv_at hl 2 rfl) ?_
      refine lv_iload hx hb dX8_isWay_207 (lv_at hl 8 rfl) ?_
      obtain ⟨q25, hq25, h⟩ := gbind_e h
      refine h_callV (As := [.int x7]) (rest := [.int x6]) hx hb (hml.trans hl.1.symm) hown E hM hS xy_X8_rise kw_1146 (c_L_rise hY hq25) (hp_m (hY.c1 0 rfl)) gC_X8.1 rfl rfl (Nat.le_of_ble_eq_true rfl) ⟨(Nat.le_of_ble_eq_true rfl), (Nat.le_of_ble_eq_true rfl)⟩ ⟨(show _ ≤ 216 by omega), (show _ ≤ 864 by omega)⟩ dX8_isWay_209 (fun rv H locs hZ hS => ?_)
      obtain ⟨rfl, hM⟩ := hZ
      refine lv_ineg hx hb dX8_isWay_212 ?_
      refine lv_iadd hx hb dX8_isWay_213 ?_
      refine lv_istore (lv' := [(6, .int (x6 + (-q25))), (5, .int (x5 ||| ((1 : Int32) <<< (x7 &&& 31)))), (8, .int y0), (0, .ref (la 0 0)), (1, .int x1), (2, .int x2), (3, .ref da0), (4, .int x4), (7, .int x7)]) hx hb dX8_isWay_214 hl (by decide) rfl (fun ls hl => ?_)
      refine lv_iload hx hb dX8_isWay_216 (lv_at hl 2 rfl) ?_
      refine lv_istore (lv' := [(4, .int y0), (6, .int (x6 + (-q25))), (5, .int (x5 ||| ((1 : Int32) <<< (x7 &&& 31)))), (8, .int y0), (0, .ref (la 0 0)), (1, .int x1), (2, .int x2), (3, .ref da0), (7, .int x7)]) hx hb dX8_isWay_218 hl (by decide) rfl (fun ls hl => ?_)
      refine lv_goto (tgt := 229) hx hb dX8_isWay_220 (by decide) ?_
      refine W.widen (k := CM) (n := SM) (by omega) (by omega) ?_
      exact kx _ (Option.some.inj h).symm hM hS (lv_sub hl [4, 5, 6, 7, 0, 2, 1] rfl)
    · replace h := gif_t c24 h
      refine lv_aload_n hx hb dX8_isWay_197 rfl (lv_at hl 2 rfl) ?_
      refine lv_iload hx hb dX8_isWay_198 (lv_at hl 8 rfl) ?_
      obtain ⟨q26, hq26, h⟩ := gbind_e h
      refine h_callV (As := [.int x7]) (rest := [.int x6]) hx hb (hml.trans hl.1.symm) hown E hM hS xy_X8_rise kw_1146 (c_L_rise hY hq26) (hp_m (hY.c1 0 rfl)) gC_X8.1 rfl rfl (Nat.le_of_ble_eq_true rfl) ⟨(Nat.le_of_ble_eq_true rfl), (Nat.le_of_ble_eq_true rfl)⟩ ⟨(show _ ≤ 216 by omega), (show _ ≤ 864 by omega)⟩ dX8_isWay_200 (fun rv H locs hZ hS => ?_)
      obtain ⟨rfl, hM⟩ := hZ
      refine lv_goto (tgt := 213) hx hb dX8_isWay_203 (by decide) ?_
      refine lv_iadd hx hb dX8_isWay_213 ?_
      refine lv_istore (lv' := [(6, .int (x6 + q26)), (5, .int (x5 ||| ((1 : Int32) <<< (x7 &&& 31)))), (8, .int y0), (0, .ref (la 0 0)), (1, .int x1), (2, .int x2), (3, .ref da0), (4, .int x4), (7, .int x7)]) hx hb dX8_isWay_214 hl (by decide) rfl (fun ls hl => ?_)
      refine lv_iload hx hb dX8_isWay_216 (lv_at hl 2 rfl) ?_
      refine lv_istore (lv' := [(4, .int y0), (6, .int (x6 + q26)), (5, .int (x5 ||| ((1 : Int32) <<< (x7 &&& 31)))), (8, .int y0), (0, .ref (la 0 0)), (1, .int x1), (2, .int x2), (3, .ref da0), (7, .int x7)]) hx hb dX8_isWay_218 hl (by decide) rfl (fun ls hl => ?_)
      refine lv_goto (tgt := 229) hx hb dX8_isWay_220 (by decide) ?_
      refine W.widen (k := CM) (n := SM) (by omega) (by omega) ?_
      exact kx _ (Option.some.inj h).symm hM hS (lv_sub hl [4, 5, 6, 7, 0, 2, 1] rfl)
  · replace h := gif_f c21 h
    refine lv_goto (tgt := 223) hx hb dX8_isWay_169 (by decide) ?_
    refine lv_iinc (v := (x7 + (1 : Int32))) (lv' := [(7, .int (x7 + (1 : Int32))), (8, .int y0), (0, .ref (la 0 0)), (1, .int x1), (2, .int x2), (3, .ref da0), (4, .int x4), (5, .int x5), (6, .int x6)]) hx hb dX8_isWay_223 hl (k := 8) rfl rfl (by decide) rfl (fun ls hl => ?_)
    refine lv_goto (tgt := 60) hx hb dX8_isWay_226 (by decide) ?_
    refine W.widen (k := C0) (n := S0) (by omega) (by omega) ?_
    exact kc _ (Option.some.inj h).symm hM hS (lv_sub hl [2, 3, 4, 5, 6, 7, 8, 0] rfl)
def j_L_isWay_110 (x1 : Int32) (x2 : Int32) (x4 : Int32) (x5 : Int32) (x6 : Int32) (x7 : Int32) (M : Nat → Nat → Int32) (ν μ : gM) : Option ((Int32 × Int32 × Int32 × Int32) ⊕ (Int32 × Int32 × Int32)) :=
  gchk (gIn x7 (lLn ν)) (if ((gi ν (20 + x7.toNatClampNeg) 0) = x4) then gchk (gIn x7 (lLn ν)) (j_L_isWay_145 x1 x2 x4 x5 x6 x7 (gi ν (20 + x7.toNatClampNeg) 1) M ν μ) else gchk (gIn x7 (lLn ν)) (j_L_isWay_145 x1 x2 x4 x5 x6 x7 (gi ν (20 + x7.toNatClampNeg) 0) M ν μ))
set_option maxHeartbeats 4000000 in
set_option maxRecDepth 100000 in
theorem wj_L_isWay_110 {p : Program} {l : Launch} {e : Env} {s : State} {m : MethodId} {args : Array Value} {below : List Frame} {meth : Method} {c : Code} {D : va_G} {cy : Nat → ClassId} {ad : Nat → Nat} {b : Nat} {la : Nat → Nat → Nat} {ν : gM} {P P0 : va_W} {x1 : Int32} {x2 : Int32} {x4 : Int32} {x5 : Int32} {x6 : Int32} {x7 : Int32} {M : Nat → Nat → Int32} {μ : gM}  {o : (Int32 × Int32 × Int32 × Int32) ⊕ (Int32 × Int32 × Int32)} {RES : (Bool) × gM} {cells slots C0 S0 CM SM : Nat} (h : j_L_isWay_110 x1 x2 x4 x5 x6 x7 M ν μ = some o) (F : gF p s m meth c cX8_isWay RX8 9 (some .boolean)) (E : hE l D cy ad b s) (hY : lY cy ad la ν P) (hPd : ∀ (μ : gM) (H : Heap), hW D cy ad b μ P [] H → hW D cy ad b μ P0 [] H) {da0 : Nat} {dr0 : Nat → Nat} (hD0 : ∀ x ∈ hmat cy da0 dr0 (lPt ν) M, x ∈ P) (hc : cells + 2 ≤ C0) (hs : slots + 8 ≤ S0) (hcm : C0 ≤ CM) (hsm : S0 ≤ SM) (hcr : CM ≤ 216) (hsr : SM ≤ 864) (kc : ∀ (t : Int32 × Int32 × Int32 × Int32) {H : Heap} {locs : List Loc} {ls : Array Slot}, o = .inl t → hW D cy ad b μ P [] H → va_S (hA b) s.heap H locs → lv_has ls 9 [(0, .ref (la 0 0)), (1, .int x1), (2, .int x2), (3, .ref da0), (4, .int t.1), (5, .int t.2.1), (6, .int t.2.2.1), (7, .int t.2.2.2)] → W p l e ({ frames := 6, cells := 216, slots := 864, locals := 138 } : Room) s m args below meth c H locs C0 S0 (MQ below (hQ b (fun rv H => rv = some (.int (b2i RES.1)) ∧ hW D cy ad b RES.2 P0 [] H)) args s 216 864 (hA b)) (F0 m 60 ls [])) (kx : ∀ (t : Int32 × Int32 × Int32) {H : Heap} {locs : List Loc} {ls : Array Slot}, o = .inr t → hW D cy ad b μ P [] H → va_S (hA b) s.heap H locs → lv_has ls 9 [(0, .ref (la 0 0)), (1, .int x1), (2, .int x2), (3, .ref da0), (4, .int t.1), (5, .int t.2.1), (6, .int t.2.2)] → W p l e ({ frames := 6, cells := 216, slots := 864, locals := 138 } : Room) s m args below meth c H locs CM SM (MQ below (hQ b (fun rv H => rv = some (.int (b2i RES.1)) ∧ hW D cy ad b RES.2 P0 [] H)) args s 216 864 (hA b)) (F0 m 229 ls []))  {H : Heap} {locs : List Loc} {ls : Array Slot} (hM : hW D cy ad b μ P [] H) (hS : va_S (hA b) s.heap H locs) (hl : lv_has ls 9 [(0, .ref (la 0 0)), (1, .int x1), (2, .int x2), (3, .ref da0), (4, .int x4), (5, .int x5), (6, .int x6), (7, .int x7)]) : W p l e ({ frames := 6, cells := 216, slots := 864, locals := 138 } : Room) s m args below meth c H locs cells slots (MQ below (hQ b (fun rv H => rv = some (.int (b2i RES.1)) ∧ hW D cy ad b RES.2 P0 [] H)) args s 216 864 (hA b)) (F0 m 110 ls []) := by
  obtain ⟨hx, hb, hml, hown, hlocks, hr⟩ := id F
  unfold j_L_isWay_110 at h
  refine lv_aload_n hx hb dX8_isWay_110 rfl (lv_at hl 0 rfl) ?_
  refine h_get hx hb hown E hM (hp_m (hY.c1 0 rfl)) gC_X8 5 (by decide) (v := .ref (la 3 0)) rfl kw_1029 dX8_isWay_111 ?_
  refine lv_iload hx hb dX8_isWay_114 (lv_at hl 7 rfl) ?_
  obtain ⟨c11, h⟩ := gchk_e h
  refine h_rald hx hb E hM (hp_m (hY.c1 3 rfl)) c11 (v := .ref (la 20 x7.toNatClampNeg)) (x_lrf c11) dX8_isWay_116 ?_
  refine lv_iconst (v := (0 : Int32)) hx hb dX8_isWay_117 (by decide) ?_
  refine l_iald hx hb E hM (hp_m (hY.c2 c11.2 0 rfl)) (⟨by decide, by decide⟩ : gIn (0 : Int32) 2) (v := (gi ν (20 + x7.toNatClampNeg) 0)) (congrArg (ν.1 (20 + x7.toNatClampNeg)) (by decide : (0 : Int32).toNatClampNeg = 0)) dX8_isWay_118 ?_
  refine lv_iload hx hb dX8_isWay_119 (lv_at hl 4 rfl) ?_
  refine lv_icmp_ne (tgt := 136) hx hb dX8_isWay_121 (by decide) (fun c13 => ?_) (fun c13 => ?_)
  · replace h := gif_f c13 h
    refine lv_aload_n hx hb dX8_isWay_136 rfl (lv_at hl 0 rfl) ?_
    refine h_get hx hb hown E hM (hp_m (hY.c1 0 rfl)) gC_X8 5 (by decide) (v := .ref (la 3 0)) rfl kw_1029 dX8_isWay_137 ?_
    refine lv_iload hx hb dX8_isWay_140 (lv_at hl 7 rfl) ?_
    obtain ⟨c14, h⟩ := gchk_e h
    refine h_rald hx hb E hM (hp_m (hY.c1 3 rfl)) c14 (v := .ref (la 20 x7.toNatClampNeg)) (x_lrf c14) dX8_isWay_142 ?_
    refine lv_iconst (v := (0 : Int32)) hx hb dX8_isWay_143 (by decide) ?_
    refine l_iald hx hb E hM (hp_m (hY.c2 c14.2 0 rfl)) (⟨by decide, by decide⟩ : gIn (0 : Int32) 2) (v := (gi ν (20 + x7.toNatClampNeg) 0)) (congrArg (ν.1 (20 + x7.toNatClampNeg)) (by decide : (0 : Int32).toNatClampNeg = 0)) dX8_isWay_144 ?_
    exact wj_L_isWay_145 h F E hY hPd hD0 (by omega) (by omega) hcm hsm hcr hsr kc kx hM hS hl
  · replace h := gif_t c13 h
    refine lv_aload_n hx hb dX8_isWay_124 rfl (lv_at hl 0 rfl) ?_
    refine h_get hx hb hown E hM (hp_m (hY.c1 0 rfl)) gC_X8 5 (by decide) (v := .ref (la 3 0)) rfl kw_1029 dX8_isWay_125 ?_
    refine lv_iload hx hb dX8_isWay_128 (lv_at hl 7 rfl) ?_
    obtain ⟨c27, h⟩ := gchk_e h
    refine h_rald hx hb E hM (hp_m (hY.c1 3 rfl)) c27 (v := .ref (la 20 x7.toNatClampNeg)) (x_lrf c27) dX8_isWay_130 ?_
    refine lv_iconst (v := (1 : Int32)) hx hb dX8_isWay_131 (by decide) ?_
    refine l_iald hx hb E hM (hp_m (hY.c2 c27.2 0 rfl)) (⟨by decide, by decide⟩ : gIn (1 : Int32) 2) (v := (gi ν (20 + x7.toNatClampNeg) 1)) (congrArg (ν.1 (20 + x7.toNatClampNeg)) (by decide : (1 : Int32).toNatClampNeg = 1)) dX8_isWay_132 ?_
    refine lv_goto (tgt := 145) hx hb dX8_isWay_133 (by decide) ?_
    exact wj_L_isWay_145 h F E hY hPd hD0 (by omega) (by omega) hcm hsm hcr hsr kc kx hM hS hl
def b_L_isWay_60 (x1 : Int32) (x2 : Int32) (M : Nat → Nat → Int32) (x4 : Int32) (x5 : Int32) (x6 : Int32) (x7 : Int32) (ν μ : gM) : Option ((Int32 × Int32 × Int32 × Int32) ⊕ (Int32 × Int32 × Int32)) :=
  if ((gi ν 0 2) ≤ x7) then some (.inr (x4, x5, x6)) else gchk (gIn x7 (lLn ν)) (if ((gi ν 5 x7.toNatClampNeg) = 0) then some (.inl (x4, x5, x6, (x7 + (1 : Int32)))) else gchk (gIn x7 (lLn ν)) (if ((gi ν (20 + x7.toNatClampNeg) 0) = x4) then j_L_isWay_110 x1 x2 x4 x5 x6 x7 M ν μ else gchk (gIn x7 (lLn ν)) (if ((gi ν (20 + x7.toNatClampNeg) 1) = x4) then j_L_isWay_110 x1 x2 x4 x5 x6 x7 M ν μ else some (.inl (x4, x5, x6, (x7 + (1 : Int32)))))))
set_option maxHeartbeats 4000000 in
set_option maxRecDepth 100000 in
theorem wb_L_isWay_60 {p : Program} {l : Launch} {e : Env} {s : State} {m : MethodId} {args : Array Value} {below : List Frame} {meth : Method} {c : Code} {D : va_G} {cy : Nat → ClassId} {ad : Nat → Nat} {b : Nat} {la : Nat → Nat → Nat} {ν : gM} {P P0 : va_W} {x1 : Int32} {x2 : Int32} {M : Nat → Nat → Int32} {x4 : Int32} {x5 : Int32} {x6 : Int32} {x7 : Int32} {μ : gM}  {o : (Int32 × Int32 × Int32 × Int32) ⊕ (Int32 × Int32 × Int32)} {RES : (Bool) × gM} {cells slots C0 S0 CM SM : Nat} (h : b_L_isWay_60 x1 x2 M x4 x5 x6 x7 ν μ = some o) (F : gF p s m meth c cX8_isWay RX8 9 (some .boolean)) (E : hE l D cy ad b s) (hY : lY cy ad la ν P) (hPd : ∀ (μ : gM) (H : Heap), hW D cy ad b μ P [] H → hW D cy ad b μ P0 [] H) {da0 : Nat} {dr0 : Nat → Nat} (hD0 : ∀ x ∈ hmat cy da0 dr0 (lPt ν) M, x ∈ P) (hc : cells + 2 ≤ C0) (hs : slots + 8 ≤ S0) (hcm : C0 ≤ CM) (hsm : S0 ≤ SM) (hcr : CM ≤ 216) (hsr : SM ≤ 864) (kc : ∀ (t : Int32 × Int32 × Int32 × Int32) {H : Heap} {locs : List Loc} {ls : Array Slot}, o = .inl t → hW D cy ad b μ P [] H → va_S (hA b) s.heap H locs → lv_has ls 9 [(0, .ref (la 0 0)), (1, .int x1), (2, .int x2), (3, .ref da0), (4, .int t.1), (5, .int t.2.1), (6, .int t.2.2.1), (7, .int t.2.2.2)] → W p l e ({ frames := 6, cells := 216, slots := 864, locals := 138 } : Room) s m args below meth c H locs C0 S0 (MQ below (hQ b (fun rv H => rv = some (.int (b2i RES.1)) ∧ hW D cy ad b RES.2 P0 [] H)) args s 216 864 (hA b)) (F0 m 60 ls [])) (kx : ∀ (t : Int32 × Int32 × Int32) {H : Heap} {locs : List Loc} {ls : Array Slot}, o = .inr t → hW D cy ad b μ P [] H → va_S (hA b) s.heap H locs → lv_has ls 9 [(0, .ref (la 0 0)), (1, .int x1), (2, .int x2), (3, .ref da0), (4, .int t.1), (5, .int t.2.1), (6, .int t.2.2)] → W p l e ({ frames := 6, cells := 216, slots := 864, locals := 138 } : Room) s m args below meth c H locs CM SM (MQ below (hQ b (fun rv H => rv = some (.int (b2i RES.1)) ∧ hW D cy ad b RES.2 P0 [] H)) args s 216 864 (hA b)) (F0 m 229 ls []))  {H : Heap} {locs : List Loc} {ls : Array Slot} (hM : hW D cy ad b μ P [] H) (hS : va_S (hA b) s.heap H locs) (hl : lv_has ls 9 [(0, .ref (la 0 0)), (1, .int x1), (2, .int x2), (3, .ref da0), (4, .int x4), (5, .int x5), (6, .int x6), (7, .int x7)]) : W p l e ({ frames := 6, cells := 216, slots := 864, locals := 138 } : Room) s m args below meth c H locs cells slots (MQ below (hQ b (fun rv H => rv = some (.int (b2i RES.1)) ∧ hW D cy ad b RES.2 P0 [] H)) args s 216 864 (hA b)) (F0 m 60 ls []) := by
  obtain ⟨hx, hb, hml, hown, hlocks, hr⟩ := id F
  unfold b_L_isWay_60 at h
  refine lv_iload hx hb dX8_isWay_60 (lv_at hl 7 rfl) ?_
  refine lv_aload_n hx hb dX8_isWay_62 rfl (lv_at hl 0 rfl) ?_
  refine h_get hx hb hown E hM (hp_m (hY.c1 0 rfl)) gC_X8 2 (by decide) (v := .int (gi ν 0 2)) rfl kw_1026 dX8_isWay_63 ?_
  refine lv_icmp_ge (tgt := 229) hx hb dX8_isWay_66 (by decide) (fun c5 => ?_) (fun c5 => ?_)
  · replace h := gif_t c5 h
    refine W.widen (k := CM) (n := SM) (by omega) (by omega) ?_
    exact kx _ (Option.some.inj h).symm hM hS (lv_sub hl [0, 1, 2, 3, 4, 5, 6] rfl)
  · replace h := gif_f c5 h
    refine lv_aload_n hx hb dX8_isWay_69 rfl (lv_at hl 0 rfl) ?_
    refine h_get hx hb hown E hM (hp_m (hY.c1 0 rfl)) gC_X8 7 (by decide) (v := .ref (la 5 0)) rfl kw_1031 dX8_isWay_70 ?_
    refine lv_iload hx hb dX8_isWay_73 (lv_at hl 7 rfl) ?_
    obtain ⟨c6, h⟩ := gchk_e h
    refine l_zald hx hb E hM (hp_m (hY.c1 5 rfl)) c6 (v := (gi ν 5 x7.toNatClampNeg)) rfl dX8_isWay_75 ?_
    refine lv_if_eq (tgt := 223) hx hb dX8_isWay_76 (by decide) (fun c7 => ?_) (fun c7 => ?_)
    · replace h := gif_t c7 h
      refine lv_iinc (v := (x7 + (1 : Int32))) (lv' := [(7, .int (x7 + (1 : Int32))), (0, .ref (la 0 0)), (1, .int x1), (2, .int x2), (3, .ref da0), (4, .int x4), (5, .int x5), (6, .int x6)]) hx hb dX8_isWay_223 hl (k := 7) rfl rfl (by decide) rfl (fun ls hl => ?_)
      refine lv_goto (tgt := 60) hx hb dX8_isWay_226 (by decide) ?_
      refine W.widen (k := C0) (n := S0) (by omega) (by omega) ?_
      exact kc _ (Option.some.inj h).symm hM hS (lv_sub hl [1, 2, 3, 4, 5, 6, 7, 0] rfl)
    · replace h := gif_f c7 h
      refine lv_aload_n hx hb dX8_isWay_79 rfl (lv_at hl 0 rfl) ?_
      refine h_get hx hb hown E hM (hp_m (hY.c1 0 rfl)) gC_X8 5 (by decide) (v := .ref (la 3 0)) rfl kw_1029 dX8_isWay_80 ?_
      refine lv_iload hx hb dX8_isWay_83 (lv_at hl 7 rfl) ?_
      obtain ⟨c8, h⟩ := gchk_e h
      refine h_rald hx hb E hM (hp_m (hY.c1 3 rfl)) c8 (v := .ref (la 20 x7.toNatClampNeg)) (x_lrf c8) dX8_isWay_85 ?_
      refine lv_iconst (v := (0 : Int32)) hx hb dX8_isWay_86 (by decide) ?_
      refine l_iald hx hb E hM (hp_m (hY.c2 c8.2 0 rfl)) (⟨by decide, by decide⟩ : gIn (0 : Int32) 2) (v := (gi ν (20 + x7.toNatClampNeg) 0)) (congrArg (ν.1 (20 + x7.toNatClampNeg)) (by decide : (0 : Int32).toNatClampNeg = 0)) dX8_isWay_87 ?_
      refine lv_iload hx hb dX8_isWay_88 (lv_at hl 4 rfl) ?_
      refine lv_icmp_eq (tgt := 110) hx hb dX8_isWay_90 (by decide) (fun c10 => ?_) (fun c10 => ?_)
      · replace h := gif_t c10 h
        exact wj_L_isWay_110 h F E hY hPd hD0 (by omega) (by omega) hcm hsm hcr hsr kc kx hM hS hl
      · replace h := gif_f c10 h
        refine lv_aload_n hx hb dX8_isWay_93 rfl (lv_at hl 0 rfl) ?_
        refine h_get hx hb hown E hM (hp_m (hY.c1 0 rfl)) gC_X8 5 (by decide) (v := .ref (la 3 0)) rfl kw_1029 dX8_isWay_94 ?_
        refine lv_iload hx hb dX8_isWay_97 (lv_at hl 7 rfl) ?_
        obtain ⟨c29, h⟩ := gchk_e h
        refine h_rald hx hb E hM (hp_m (hY.c1 3 rfl)) c29 (v := .ref (la 20 x7.toNatClampNeg)) (x_lrf c29) dX8_isWay_99 ?_
        refine lv_iconst (v := (1 : Int32)) hx hb dX8_isWay_100 (by decide) ?_
        refine l_iald hx hb E hM (hp_m (hY.c2 c29.2 0 rfl)) (⟨by decide, by decide⟩ : gIn (1 : Int32) 2) (v := (gi ν (20 + x7.toNatClampNeg) 1)) (congrArg (ν.1 (20 + x7.toNatClampNeg)) (by decide : (1 : Int32).toNatClampNeg = 1)) dX8_isWay_101 ?_
        refine lv_iload hx hb dX8_isWay_102 (lv_at hl 4 rfl) ?_
        refine lv_icmp_eq (tgt := 110) hx hb dX8_isWay_104 (by decide) (fun c31 => ?_) (fun c31 => ?_)
        · replace h := gif_t c31 h
          exact wj_L_isWay_110 h F E hY hPd hD0 (by omega) (by omega) hcm hsm hcr hsr kc kx hM hS hl
        · replace h := gif_f c31 h
          refine lv_goto (tgt := 223) hx hb dX8_isWay_107 (by decide) ?_
          refine lv_iinc (v := (x7 + (1 : Int32))) (lv' := [(7, .int (x7 + (1 : Int32))), (0, .ref (la 0 0)), (1, .int x1), (2, .int x2), (3, .ref da0), (4, .int x4), (5, .int x5), (6, .int x6)]) hx hb dX8_isWay_223 hl (k := 7) rfl rfl (by decide) rfl (fun ls hl => ?_)
          refine lv_goto (tgt := 60) hx hb dX8_isWay_226 (by decide) ?_
          refine W.widen (k := C0) (n := S0) (by omega) (by omega) ?_
          exact kc _ (Option.some.inj h).symm hM hS (lv_sub hl [1, 2, 3, 4, 5, 6, 7, 0] rfl)
set_option maxHeartbeats 4000000 in
theorem wl_L_isWay_60 {p : Program} {l : Launch} {e : Env} {s : State} {m : MethodId} {args : Array Value} {below : List Frame} {meth : Method} {c : Code} {D : va_G} {cy : Nat → ClassId} {ad : Nat → Nat} {b : Nat} {la : Nat → Nat → Nat} {ν : gM} {P P0 : va_W} {x1 : Int32} {x2 : Int32} {M : Nat → Nat → Int32} {μ : gM}  {r : Int32 × Int32 × Int32} {RES : (Bool) × gM} {CM SM : Nat} (F : gF p s m meth c cX8_isWay RX8 9 (some .boolean)) (E : hE l D cy ad b s) (hY : lY cy ad la ν P) (hPd : ∀ (μ : gM) (H : Heap), hW D cy ad b μ P [] H → hW D cy ad b μ P0 [] H) {da0 : Nat} {dr0 : Nat → Nat} (hD0 : ∀ x ∈ hmat cy da0 dr0 (lPt ν) M, x ∈ P) (hcr : CM ≤ 216) (hsr : SM ≤ 864) (kx : ∀ (t : Int32 × Int32 × Int32) {H : Heap} {locs : List Loc} {ls : Array Slot}, r = t → hW D cy ad b μ P [] H → va_S (hA b) s.heap H locs → lv_has ls 9 [(0, .ref (la 0 0)), (1, .int x1), (2, .int x2), (3, .ref da0), (4, .int t.1), (5, .int t.2.1), (6, .int t.2.2)] → W p l e ({ frames := 6, cells := 216, slots := 864, locals := 138 } : Room) s m args below meth c H locs CM SM (MQ below (hQ b (fun rv H => rv = some (.int (b2i RES.1)) ∧ hW D cy ad b RES.2 P0 [] H)) args s 216 864 (hA b)) (F0 m 229 ls []))  : ∀ (n : Nat) (x4 : Int32) (x5 : Int32) (x6 : Int32) (x7 : Int32)  {cells slots : Nat}, cells + n * 2 ≤ CM → slots + n * 8 ≤ SM → gloop (fun t => b_L_isWay_60 x1 x2 M t.1 t.2.1 t.2.2.1 t.2.2.2 ν μ) n (x4, x5, x6, x7) = some r → ∀ {H : Heap} {locs : List Loc} {ls : Array Slot}, hW D cy ad b μ P [] H → va_S (hA b) s.heap H locs → lv_has ls 9 [(0, .ref (la 0 0)), (1, .int x1), (2, .int x2), (3, .ref da0), (4, .int x4), (5, .int x5), (6, .int x6), (7, .int x7)] → W p l e ({ frames := 6, cells := 216, slots := 864, locals := 138 } : Room) s m args below meth c H locs cells slots (MQ below (hQ b (fun rv H => rv = some (.int (b2i RES.1)) ∧ hW D cy ad b RES.2 P0 [] H)) args s 216 864 (hA b)) (F0 m 60 ls []) := by
  intro n
  induction n with
  | zero =>
    intro x4 x5 x6 x7 cells slots hc hs h
    exact (gloop_0 h).elim
  | succ n ih =>
    intro x4 x5 x6 x7 cells slots hc hs h H locs ls hM hS hl
    obtain ⟨o, h0, hcc, hq⟩ := gloop_s h
    have h1 : b_L_isWay_60 x1 x2 M x4 x5 x6 x7 ν μ = some o := h0
    exact wb_L_isWay_60 (C0 := cells + 2) (S0 := slots + 8) (CM := CM) (SM := SM) h1 F E hY hPd hD0 (by omega) (by omega) (by omega) (by omega) hcr hsr (fun t H locs ls ho hM hS hl => ih t.1 t.2.1 t.2.2.1 t.2.2.2 (by omega) (by omega) (hcc t ho) hM hS hl) (fun t H locs ls ho hM hS hl => kx t (hq _ ho).symm hM hS hl) hM hS hl
def b_L_isWay_51 (x1 : Int32) (x2 : Int32) (M : Nat → Nat → Int32) (x4 : Int32) (x5 : Int32) (x6 : Int32) (ν μ : gM) : Option ((Int32 × Int32 × Int32) ⊕ (Int32 × Int32)) :=
  if (x4 = x1) then some (.inr (x5, x6)) else Option.bind (gloop (fun t => b_L_isWay_60 x1 x2 M t.1 t.2.1 t.2.2.1 t.2.2.2 ν μ) 12 (x4, x5, x6, (0 : Int32))) (fun q32 => some (.inl (q32.1, q32.2.1, q32.2.2)))
set_option maxHeartbeats 4000000 in
set_option maxRecDepth 100000 in
theorem wb_L_isWay_51 {p : Program} {l : Launch} {e : Env} {s : State} {m : MethodId} {args : Array Value} {below : List Frame} {meth : Method} {c : Code} {D : va_G} {cy : Nat → ClassId} {ad : Nat → Nat} {b : Nat} {la : Nat → Nat → Nat} {ν : gM} {P P0 : va_W} {x1 : Int32} {x2 : Int32} {M : Nat → Nat → Int32} {x4 : Int32} {x5 : Int32} {x6 : Int32} {μ : gM}  {o : (Int32 × Int32 × Int32) ⊕ (Int32 × Int32)} {RES : (Bool) × gM} {cells slots C0 S0 CM SM : Nat} (h : b_L_isWay_51 x1 x2 M x4 x5 x6 ν μ = some o) (F : gF p s m meth c cX8_isWay RX8 9 (some .boolean)) (E : hE l D cy ad b s) (hY : lY cy ad la ν P) (hPd : ∀ (μ : gM) (H : Heap), hW D cy ad b μ P [] H → hW D cy ad b μ P0 [] H) {da0 : Nat} {dr0 : Nat → Nat} (hD0 : ∀ x ∈ hmat cy da0 dr0 (lPt ν) M, x ∈ P) (hc : cells + 24 ≤ C0) (hs : slots + 96 ≤ S0) (hcm : C0 ≤ CM) (hsm : S0 ≤ SM) (hcr : CM ≤ 216) (hsr : SM ≤ 864) (kc : ∀ (t : Int32 × Int32 × Int32) {H : Heap} {locs : List Loc} {ls : Array Slot}, o = .inl t → hW D cy ad b μ P [] H → va_S (hA b) s.heap H locs → lv_has ls 9 [(0, .ref (la 0 0)), (1, .int x1), (2, .int x2), (3, .ref da0), (4, .int t.1), (5, .int t.2.1), (6, .int t.2.2)] → W p l e ({ frames := 6, cells := 216, slots := 864, locals := 138 } : Room) s m args below meth c H locs C0 S0 (MQ below (hQ b (fun rv H => rv = some (.int (b2i RES.1)) ∧ hW D cy ad b RES.2 P0 [] H)) args s 216 864 (hA b)) (F0 m 51 ls [])) (kx : ∀ (t : Int32 × Int32) {H : Heap} {locs : List Loc} {ls : Array Slot}, o = .inr t → hW D cy ad b μ P [] H → va_S (hA b) s.heap H locs → lv_has ls 9 [(0, .ref (la 0 0)), (1, .int x1), (2, .int x2), (5, .int t.1), (6, .int t.2)] → W p l e ({ frames := 6, cells := 216, slots := 864, locals := 138 } : Room) s m args below meth c H locs CM SM (MQ below (hQ b (fun rv H => rv = some (.int (b2i RES.1)) ∧ hW D cy ad b RES.2 P0 [] H)) args s 216 864 (hA b)) (F0 m 232 ls []))  {H : Heap} {locs : List Loc} {ls : Array Slot} (hM : hW D cy ad b μ P [] H) (hS : va_S (hA b) s.heap H locs) (hl : lv_has ls 9 [(0, .ref (la 0 0)), (1, .int x1), (2, .int x2), (3, .ref da0), (4, .int x4), (5, .int x5), (6, .int x6)]) : W p l e ({ frames := 6, cells := 216, slots := 864, locals := 138 } : Room) s m args below meth c H locs cells slots (MQ below (hQ b (fun rv H => rv = some (.int (b2i RES.1)) ∧ hW D cy ad b RES.2 P0 [] H)) args s 216 864 (hA b)) (F0 m 51 ls []) := by
  obtain ⟨hx, hb, hml, hown, hlocks, hr⟩ := id F
  unfold b_L_isWay_51 at h
  refine lv_iload hx hb dX8_isWay_51 (lv_at hl 4 rfl) ?_
  refine lv_iload_n hx hb dX8_isWay_53 rfl (lv_at hl 1 rfl) ?_
  refine lv_icmp_eq (tgt := 232) hx hb dX8_isWay_54 (by decide) (fun c4 => ?_) (fun c4 => ?_)
  · replace h := gif_t c4 h
    refine W.widen (k := CM) (n := SM) (by omega) (by omega) ?_
    exact kx _ (Option.some.inj h).symm hM hS (lv_sub hl [0, 1, 2, 5, 6] rfl)
  · replace h := gif_f c4 h
    refine lv_iconst (v := (0 : Int32)) hx hb dX8_isWay_57 (by decide) ?_
    refine lv_istore (lv' := [(7, .int (0 : Int32)), (0, .ref (la 0 0)), (1, .int x1), (2, .int x2), (3, .ref da0), (4, .int x4), (5, .int x5), (6, .int x6)]) hx hb dX8_isWay_58 hl (by decide) rfl (fun ls hl => ?_)
    obtain ⟨z33, h1, h⟩ := gbind_e h
    refine wl_L_isWay_60 (CM := cells + 24) (SM := slots + 96) F E hY hPd hD0 (by omega) (by omega) (r := z33) (fun q32 H locs ls e1 hM hS hl => ?_) 12 x4 x5 x6 (0 : Int32) (by omega) (by omega) h1 hM hS (lv_sub hl [1, 2, 3, 4, 5, 6, 7, 0] rfl)
    replace e1 : z33 = q32 := e1
    rw [e1] at h
    refine lv_goto (tgt := 51) hx hb dX8_isWay_229 (by decide) ?_
    refine W.widen (k := C0) (n := S0) (by omega) (by omega) ?_
    exact kc _ (Option.some.inj h).symm hM hS hl
set_option maxHeartbeats 4000000 in
theorem wl_L_isWay_51 {p : Program} {l : Launch} {e : Env} {s : State} {m : MethodId} {args : Array Value} {below : List Frame} {meth : Method} {c : Code} {D : va_G} {cy : Nat → ClassId} {ad : Nat → Nat} {b : Nat} {la : Nat → Nat → Nat} {ν : gM} {P P0 : va_W} {x1 : Int32} {x2 : Int32} {M : Nat → Nat → Int32} {μ : gM}  {r : Int32 × Int32} {RES : (Bool) × gM} {CM SM : Nat} (F : gF p s m meth c cX8_isWay RX8 9 (some .boolean)) (E : hE l D cy ad b s) (hY : lY cy ad la ν P) (hPd : ∀ (μ : gM) (H : Heap), hW D cy ad b μ P [] H → hW D cy ad b μ P0 [] H) {da0 : Nat} {dr0 : Nat → Nat} (hD0 : ∀ x ∈ hmat cy da0 dr0 (lPt ν) M, x ∈ P) (hcr : CM ≤ 216) (hsr : SM ≤ 864) (kx : ∀ (t : Int32 × Int32) {H : Heap} {locs : List Loc} {ls : Array Slot}, r = t → hW D cy ad b μ P [] H → va_S (hA b) s.heap H locs → lv_has ls 9 [(0, .ref (la 0 0)), (1, .int x1), (2, .int x2), (5, .int t.1), (6, .int t.2)] → W p l e ({ frames := 6, cells := 216, slots := 864, locals := 138 } : Room) s m args below meth c H locs CM SM (MQ below (hQ b (fun rv H => rv = some (.int (b2i RES.1)) ∧ hW D cy ad b RES.2 P0 [] H)) args s 216 864 (hA b)) (F0 m 232 ls []))  : ∀ (n : Nat) (x4 : Int32) (x5 : Int32) (x6 : Int32)  {cells slots : Nat}, cells + n * 24 ≤ CM → slots + n * 96 ≤ SM → gloop (fun t => b_L_isWay_51 x1 x2 M t.1 t.2.1 t.2.2 ν μ) n (x4, x5, x6) = some r → ∀ {H : Heap} {locs : List Loc} {ls : Array Slot}, hW D cy ad b μ P [] H → va_S (hA b) s.heap H locs → lv_has ls 9 [(0, .ref (la 0 0)), (1, .int x1), (2, .int x2), (3, .ref da0), (4, .int x4), (5, .int x5), (6, .int x6)] → W p l e ({ frames := 6, cells := 216, slots := 864, locals := 138 } : Room) s m args below meth c H locs cells slots (MQ below (hQ b (fun rv H => rv = some (.int (b2i RES.1)) ∧ hW D cy ad b RES.2 P0 [] H)) args s 216 864 (hA b)) (F0 m 51 ls []) := by
  intro n
  induction n with
  | zero =>
    intro x4 x5 x6 cells slots hc hs h
    exact (gloop_0 h).elim
  | succ n ih =>
    intro x4 x5 x6 cells slots hc hs h H locs ls hM hS hl
    obtain ⟨o, h0, hcc, hq⟩ := gloop_s h
    have h1 : b_L_isWay_51 x1 x2 M x4 x5 x6 ν μ = some o := h0
    exact wb_L_isWay_51 (C0 := cells + 24) (S0 := slots + 96) (CM := CM) (SM := SM) h1 F E hY hPd hD0 (by omega) (by omega) (by omega) (by omega) hcr hsr (fun t H locs ls ho hM hS hl => ih t.1 t.2.1 t.2.2 (by omega) (by omega) (hcc t ho) hM hS hl) (fun t H locs ls ho hM hS hl => kx t (hq _ ho).symm hM hS hl) hM hS hl
def f_L_isWay (p1 : Int32) (p2 : Int32) (M : Nat → Nat → Int32) (ν μ : gM) : Option ((Bool) × gM) :=
  gchk (gIn p1 (lPt ν)) (gchk (gIn p2 (lPt ν)) (if ((M p1.toNatClampNeg p2.toNatClampNeg) < (1000000 : Int32)) then Option.bind (gloop (fun t => b_L_isWay_51 p1 p2 M t.1 t.2.1 t.2.2 ν μ) 9 (p2, (0 : Int32), (0 : Int32))) (fun q34 => Option.bind (f_X7_wayBetween p1 p2 μ) (fun q35 => if (q35.1 = q34.1) then Option.bind (f_X7_riseBetween p1 p2 q35.2) (fun q37 => if (q37.1 = q34.2) then some (true, q37.2) else some (false, q37.2)) else some (false, q35.2))) else Option.bind (f_X7_riseBetween p1 p2 μ) (fun q40 => if (q40.1 = (-2147483648 : Int32)) then Option.bind (f_X7_wayBetween p1 p2 q40.2) (fun q42 => if (q42.1 = 0) then some (true, q42.2) else some (false, q42.2)) else some (false, q40.2))))
set_option maxHeartbeats 4000000 in
set_option maxRecDepth 100000 in
theorem c_L_isWay {l : Launch} {D : va_G} {cy : Nat → ClassId} {ad : Nat → Nat} {b : Nat} {la : Nat → Nat → Nat} {μ ν : gM} {P : va_W} {p1 : Int32} {p2 : Int32} {M : Nat → Nat → Int32} {RES : (Bool) × gM} (hY : lY cy ad la ν P) {da0 : Nat} {dr0 : Nat → Nat} (hD0 : ∀ x ∈ hmat cy da0 dr0 (lPt ν) M, x ∈ P) (h : f_L_isWay p1 p2 M ν μ = some RES) : Met l yX8_isWay [.code yX8_isWay cX8_isWay 9 (some .boolean)] ({ frames := 6, cells := 216, slots := 864, locals := 138 } : Room) (va_Pc [.ref (la 0 0), .int p1, .int p2, .ref da0] (hB l D cy ad b μ P [])) (hQ b (fun rv H => rv = some (.int (b2i RES.1)) ∧ hW D cy ad b RES.2 P [] H)) 216 864 (hA b) := by
  refine Met.ofW (cc := cX8_isWay) (maxL := 9) (ret := (some .boolean)) (by decide +kernel) rfl ?_
  intro p e s m args below meth c s₁ B hml0 hv
  obtain ⟨rfl, E, hM⟩ := hv
  have F : gF p s m meth c cX8_isWay RX8 9 (some .boolean) := gF_of B hml0
  obtain ⟨hx, hb, hml, hown, hlocks, hr⟩ := id F
  have hS : va_S (hA b) s.heap s.heap [] := va_S.rf
  have hl := lv_entry ([.ref (la 0 0), .int p1, .int p2, .ref da0]) (n := 9) (Nat.le_of_ble_eq_true rfl)
  rw [lg_entry_eq]
  generalize (lg_sl ([.ref (la 0 0), .int p1, .int p2, .ref da0]) ++ List.replicate (9 - (lg_sl ([.ref (la 0 0), .int p1, .int p2, .ref da0])).length) Slot.unset).toArray = ls at hl ⊢
  have hl : lv_has ls 9 [(0, .ref (la 0 0)), (1, .int p1), (2, .int p2), (3, .ref da0)] := hl
  unfold f_L_isWay at h
  refine lv_aload_n hx hb dX8_isWay_0 rfl (lv_at hl 3 rfl) ?_
  refine lv_iload_n hx hb dX8_isWay_1 rfl (lv_at hl 1 rfl) ?_
  obtain ⟨c1, h⟩ := gchk_e h
  refine h_rald hx hb E hM (hp_m (hD0 _ hmat_o)) c1 (v := .ref (dr0 p1.toNatClampNeg)) (x_lrf c1) dX8_isWay_2 ?_
  refine lv_iload_n hx hb dX8_isWay_3 rfl (lv_at hl 2 rfl) ?_
  obtain ⟨c2, h⟩ := gchk_e h
  refine l_iald hx hb E hM (hp_m (hD0 _ (hmat_r c1.2))) c2 (v := (M p1.toNatClampNeg p2.toNatClampNeg)) rfl dX8_isWay_4 ?_
  refine lv_ldc hx hb hown (v := (1000000 : Int32)) (E.kw kw_1211) dX8_isWay_5 ?_
  refine lv_icmp_lt (tgt := 42) hx hb dX8_isWay_7 (by decide) (fun c3 => ?_) (fun c3 => ?_)
  · replace h := gif_t c3 h
    refine lv_iload_n hx hb dX8_isWay_42 rfl (lv_at hl 2 rfl) ?_
    refine lv_istore (lv' := [(4, .int p2), (0, .ref (la 0 0)), (1, .int p1), (2, .int p2), (3, .ref da0)]) hx hb dX8_isWay_43 hl (by decide) rfl (fun ls hl => ?_)
    refine lv_iconst (v := (0 : Int32)) hx hb dX8_isWay_45 (by decide) ?_
    refine lv_istore (lv' := [(5, .int (0 : Int32)), (4, .int p2), (0, .ref (la 0 0)), (1, .int p1), (2, .int p2), (3, .ref da0)]) hx hb dX8_isWay_46 hl (by decide) rfl (fun ls hl => ?_)
    refine lv_iconst (v := (0 : Int32)) hx hb dX8_isWay_48 (by decide) ?_
    refine lv_istore (lv' := [(6, .int (0 : Int32)), (5, .int (0 : Int32)), (4, .int p2), (0, .ref (la 0 0)), (1, .int p1), (2, .int p2), (3, .ref da0)]) hx hb dX8_isWay_49 hl (by decide) rfl (fun ls hl => ?_)
    obtain ⟨z39, h1, h⟩ := gbind_e h
    refine wl_L_isWay_51 (CM := 216) (SM := 864) F E hY (fun _ _ h => h) hD0 (by omega) (by omega) (r := z39) (fun q34 H locs ls e1 hM hS hl => ?_) 9 p2 (0 : Int32) (0 : Int32) (by omega) (by omega) h1 hM hS (lv_sub hl [3, 4, 5, 6, 2, 1, 0] rfl)
    replace e1 : z39 = q34 := e1
    rw [e1] at h
    refine lv_aload_n hx hb dX8_isWay_232 rfl (lv_at hl 0 rfl) ?_
    refine h_get hx hb hown E hM (hp_m (hY.c1 0 rfl)) gC_X8 0 (by decide) (v := .ref (ad 0)) rfl kw_1023 dX8_isWay_233 ?_
    refine lv_iload_n hx hb dX8_isWay_236 rfl (lv_at hl 1 rfl) ?_
    refine lv_iload_n hx hb dX8_isWay_237 rfl (lv_at hl 2 rfl) ?_
    obtain ⟨q35, hq35, h⟩ := gbind_e h
    refine h_callC (As := [.int p1, .int p2]) (rest := []) hx hb (hml.trans hl.1.symm) hown E hM hS hy_X7_wayBetween kw_1287 (c_X7_wayBetween hq35) hk_0 dd_0 rfl rfl rfl (Nat.le_of_ble_eq_true rfl) ⟨(Nat.le_of_ble_eq_true rfl), (Nat.le_of_ble_eq_true rfl)⟩ ⟨(show _ ≤ 216 by omega), (show _ ≤ 864 by omega)⟩ dX8_isWay_238 (fun H locs hM hS => ?_)
    refine lv_iload hx hb dX8_isWay_241 (lv_at hl 3 rfl) ?_
    refine lv_icmp_ne (tgt := 264) hx hb dX8_isWay_243 (by decide) (fun c36 => ?_) (fun c36 => ?_)
    · replace h := gif_f c36 h
      refine lv_iconst (v := (0 : Int32)) hx hb dX8_isWay_264 (by decide) ?_
      obtain rfl := Option.some.inj h
      exact h_zret (v := b2i false) hx hb hr hlocks (by omega) (by omega) (b2i_nar false) ⟨rfl, (fun _ _ h => h) _ _ (hW.drop hM)⟩ hS dX8_isWay_265
    · replace h := gif_t c36 h
      refine lv_aload_n hx hb dX8_isWay_246 rfl (lv_at hl 0 rfl) ?_
      refine h_get hx hb hown E hM (hp_m (hY.c1 0 rfl)) gC_X8 0 (by decide) (v := .ref (ad 0)) rfl kw_1023 dX8_isWay_247 ?_
      refine lv_iload_n hx hb dX8_isWay_250 rfl (lv_at hl 1 rfl) ?_
      refine lv_iload_n hx hb dX8_isWay_251 rfl (lv_at hl 2 rfl) ?_
      obtain ⟨q37, hq37, h⟩ := gbind_e h
      refine h_callC (As := [.int p1, .int p2]) (rest := []) hx hb (hml.trans hl.1.symm) hown E hM hS hy_X7_riseBetween kw_1271 (c_X7_riseBetween hq37) hk_0 dd_0 rfl rfl rfl (Nat.le_of_ble_eq_true rfl) ⟨(Nat.le_of_ble_eq_true rfl), (Nat.le_of_ble_eq_true rfl)⟩ ⟨(show _ ≤ 216 by omega), (show _ ≤ 864 by omega)⟩ dX8_isWay_252 (fun H locs hM hS => ?_)
      refine lv_iload hx hb dX8_isWay_255 (lv_at hl 4 rfl) ?_
      refine lv_icmp_ne (tgt := 264) hx hb dX8_isWay_257 (by decide) (fun c38 => ?_) (fun c38 => ?_)
      · replace h := gif_f c38 h
        refine lv_iconst (v := (0 : Int32)) hx hb dX8_isWay_264 (by decide) ?_
        obtain rfl := Option.some.inj h
        exact h_zret (v := b2i false) hx hb hr hlocks (by omega) (by omega) (b2i_nar false) ⟨rfl, (fun _ _ h => h) _ _ (hW.drop hM)⟩ hS dX8_isWay_265
      · replace h := gif_t c38 h
        refine lv_iconst (v := (1 : Int32)) hx hb dX8_isWay_260 (by decide) ?_
        refine lv_goto (tgt := 265) hx hb dX8_isWay_261 (by decide) ?_
        obtain rfl := Option.some.inj h
        exact h_zret (v := b2i true) hx hb hr hlocks (by omega) (by omega) (b2i_nar true) ⟨rfl, (fun _ _ h => h) _ _ (hW.drop hM)⟩ hS dX8_isWay_265
  · replace h := gif_f c3 h
    refine lv_aload_n hx hb dX8_isWay_10 rfl (lv_at hl 0 rfl) ?_
    refine h_get hx hb hown E hM (hp_m (hY.c1 0 rfl)) gC_X8 0 (by decide) (v := .ref (ad 0)) rfl kw_1023 dX8_isWay_11 ?_
    refine lv_iload_n hx hb dX8_isWay_14 rfl (lv_at hl 1 rfl) ?_
    refine lv_iload_n hx hb dX8_isWay_15 rfl (lv_at hl 2 rfl) ?_
    obtain ⟨q40, hq40, h⟩ := gbind_e h
    refine h_callC (As := [.int p1, .int p2]) (rest := []) hx hb (hml.trans hl.1.symm) hown E hM hS hy_X7_riseBetween kw_1271 (c_X7_riseBetween hq40) hk_0 dd_0 rfl rfl rfl (Nat.le_of_ble_eq_true rfl) ⟨(Nat.le_of_ble_eq_true rfl), (Nat.le_of_ble_eq_true rfl)⟩ ⟨(show _ ≤ 216 by omega), (show _ ≤ 864 by omega)⟩ dX8_isWay_16 (fun H locs hM hS => ?_)
    refine lv_ldc hx hb hown (v := (-2147483648 : Int32)) (E.kw kw_1286) dX8_isWay_19 ?_
    refine lv_icmp_ne (tgt := 40) hx hb dX8_isWay_21 (by decide) (fun c41 => ?_) (fun c41 => ?_)
    · replace h := gif_f c41 h
      refine lv_iconst (v := (0 : Int32)) hx hb dX8_isWay_40 (by decide) ?_
      obtain rfl := Option.some.inj h
      exact h_zret (v := b2i false) hx hb hr hlocks (by omega) (by omega) (b2i_nar false) ⟨rfl, (fun _ _ h => h) _ _ (hW.drop hM)⟩ hS dX8_isWay_41
    · replace h := gif_t c41 h
      refine lv_aload_n hx hb dX8_isWay_24 rfl (lv_at hl 0 rfl) ?_
      refine h_get hx hb hown E hM (hp_m (hY.c1 0 rfl)) gC_X8 0 (by decide) (v := .ref (ad 0)) rfl kw_1023 dX8_isWay_25 ?_
      refine lv_iload_n hx hb dX8_isWay_28 rfl (lv_at hl 1 rfl) ?_
      refine lv_iload_n hx hb dX8_isWay_29 rfl (lv_at hl 2 rfl) ?_
      obtain ⟨q42, hq42, h⟩ := gbind_e h
      refine h_callC (As := [.int p1, .int p2]) (rest := []) hx hb (hml.trans hl.1.symm) hown E hM hS hy_X7_wayBetween kw_1287 (c_X7_wayBetween hq42) hk_0 dd_0 rfl rfl rfl (Nat.le_of_ble_eq_true rfl) ⟨(Nat.le_of_ble_eq_true rfl), (Nat.le_of_ble_eq_true rfl)⟩ ⟨(show _ ≤ 216 by omega), (show _ ≤ 864 by omega)⟩ dX8_isWay_30 (fun H locs hM hS => ?_)
      refine lv_if_ne (tgt := 40) hx hb dX8_isWay_33 (by decide) (fun c43 => ?_) (fun c43 => ?_)
      · replace h := gif_f c43 h
        refine lv_iconst (v := (0 : Int32)) hx hb dX8_isWay_40 (by decide) ?_
        obtain rfl := Option.some.inj h
        exact h_zret (v := b2i false) hx hb hr hlocks (by omega) (by omega) (b2i_nar false) ⟨rfl, (fun _ _ h => h) _ _ (hW.drop hM)⟩ hS dX8_isWay_41
      · replace h := gif_t c43 h
        refine lv_iconst (v := (1 : Int32)) hx hb dX8_isWay_36 (by decide) ?_
        refine lv_goto (tgt := 41) hx hb dX8_isWay_37 (by decide) ?_
        obtain rfl := Option.some.inj h
        exact h_zret (v := b2i true) hx hb hr hlocks (by omega) (by omega) (b2i_nar true) ⟨rfl, (fun _ _ h => h) _ _ (hW.drop hM)⟩ hS dX8_isWay_41

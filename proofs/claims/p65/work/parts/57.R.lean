theorem xy_X8_provisional : gYV yX8_provisional cX8_provisional 6 (some (.array .long)) 0 := ⟨kw_1388, kw_50, kw_1387, kw_43, ⟨by decide +kernel, by decide +kernel⟩, by decide +kernel⟩
theorem dX8_areHeights_0 : decode cX8_areHeights 0 = .ok (.aload_n 0, 1) := by decide +kernel
theorem dX8_areHeights_1 : decode cX8_areHeights 1 = .ok (.invokevirtual 256, 3) := by decide +kernel
theorem dX8_areHeights_4 : decode cX8_areHeights 4 = .ok (.astore_n 1, 1) := by decide +kernel
theorem dX8_areHeights_5 : decode cX8_areHeights 5 = .ok (.iconst 0, 1) := by decide +kernel
theorem dX8_areHeights_6 : decode cX8_areHeights 6 = .ok (.istore_n 2, 1) := by decide +kernel
theorem dX8_areHeights_7 : decode cX8_areHeights 7 = .ok (.iload_n 2, 1) := by decide +kernel
theorem dX8_areHeights_8 : decode cX8_areHeights 8 = .ok (.aload_n 0, 1) := by decide +kernel
theorem dX8_areHeights_9 : decode cX8_areHeights 9 = .ok (.getfield 43, 3) := by decide +kernel
theorem dX8_areHeights_12 : decode cX8_areHeights 12 = .ok (.if_icmp .ge 74, 3) := by decide +kernel
theorem dX8_areHeights_15 : decode cX8_areHeights 15 = .ok (.aload_n 0, 1) := by decide +kernel
theorem dX8_areHeights_16 : decode cX8_areHeights 16 = .ok (.getfield 12, 3) := by decide +kernel
theorem dX8_areHeights_19 : decode cX8_areHeights 19 = .ok (.iload_n 2, 1) := by decide +kernel
theorem dX8_areHeights_20 : decode cX8_areHeights 20 = .ok (.invokevirtual 270, 3) := by decide +kernel
theorem dX8_areHeights_23 : decode cX8_areHeights 23 = .ok (.aload_n 1, 1) := by decide +kernel
theorem dX8_areHeights_24 : decode cX8_areHeights 24 = .ok (.iload_n 2, 1) := by decide +kernel
theorem dX8_areHeights_25 : decode cX8_areHeights 25 = .ok (.laload, 1) := by decide +kernel
theorem dX8_areHeights_26 : decode cX8_areHeights 26 = .ok (.lcmp, 1) := by decide +kernel
theorem dX8_areHeights_27 : decode cX8_areHeights 27 = .ok (.ifCond .ne 51, 3) := by decide +kernel
theorem dX8_areHeights_30 : decode cX8_areHeights 30 = .ok (.aload_n 0, 1) := by decide +kernel
theorem dX8_areHeights_31 : decode cX8_areHeights 31 = .ok (.getfield 12, 3) := by decide +kernel
theorem dX8_areHeights_34 : decode cX8_areHeights 34 = .ok (.iload_n 2, 1) := by decide +kernel
theorem dX8_areHeights_35 : decode cX8_areHeights 35 = .ok (.invokevirtual 273, 3) := by decide +kernel
theorem dX8_areHeights_38 : decode cX8_areHeights 38 = .ok (.aload_n 0, 1) := by decide +kernel
theorem dX8_areHeights_39 : decode cX8_areHeights 39 = .ok (.getfield 260, 3) := by decide +kernel
theorem dX8_areHeights_42 : decode cX8_areHeights 42 = .ok (.ifnonnull 9, 3) := by decide +kernel
theorem dX8_areHeights_45 : decode cX8_areHeights 45 = .ok (.ldc2_w 235, 3) := by decide +kernel
theorem dX8_areHeights_48 : decode cX8_areHeights 48 = .ok (.goto 9, 3) := by decide +kernel
theorem dX8_areHeights_51 : decode cX8_areHeights 51 = .ok (.aload_n 0, 1) := by decide +kernel
theorem dX8_areHeights_52 : decode cX8_areHeights 52 = .ok (.getfield 260, 3) := by decide +kernel
theorem dX8_areHeights_55 : decode cX8_areHeights 55 = .ok (.iload_n 2, 1) := by decide +kernel
theorem dX8_areHeights_56 : decode cX8_areHeights 56 = .ok (.laload, 1) := by decide +kernel
theorem dX8_areHeights_57 : decode cX8_areHeights 57 = .ok (.lcmp, 1) := by decide +kernel
theorem dX8_areHeights_58 : decode cX8_areHeights 58 = .ok (.ifCond .ne 20, 3) := by decide +kernel
theorem dX8_areHeights_61 : decode cX8_areHeights 61 = .ok (.aload_n 0, 1) := by decide +kernel
theorem dX8_areHeights_62 : decode cX8_areHeights 62 = .ok (.getfield 12, 3) := by decide +kernel
theorem dX8_areHeights_65 : decode cX8_areHeights 65 = .ok (.iload_n 2, 1) := by decide +kernel
theorem dX8_areHeights_66 : decode cX8_areHeights 66 = .ok (.invokevirtual 276, 3) := by decide +kernel
theorem dX8_areHeights_69 : decode cX8_areHeights 69 = .ok (.aload_n 0, 1) := by decide +kernel
theorem dX8_areHeights_70 : decode cX8_areHeights 70 = .ok (.getfield 22, 3) := by decide +kernel
theorem dX8_areHeights_73 : decode cX8_areHeights 73 = .ok (.iload_n 2, 1) := by decide +kernel
theorem dX8_areHeights_74 : decode cX8_areHeights 74 = .ok (.iaload, 1) := by decide +kernel
theorem dX8_areHeights_75 : decode cX8_areHeights 75 = .ok (.if_icmp .eq 5, 3) := by decide +kernel
theorem dX8_areHeights_78 : decode cX8_areHeights 78 = .ok (.iconst 0, 1) := by decide +kernel
theorem dX8_areHeights_79 : decode cX8_areHeights 79 = .ok (.ireturn, 1) := by decide +kernel
theorem dX8_areHeights_80 : decode cX8_areHeights 80 = .ok (.iinc 2 1, 3) := by decide +kernel
theorem dX8_areHeights_83 : decode cX8_areHeights 83 = .ok (.goto (-76), 3) := by decide +kernel
theorem dX8_areHeights_86 : decode cX8_areHeights 86 = .ok (.iconst 0, 1) := by decide +kernel
theorem dX8_areHeights_87 : decode cX8_areHeights 87 = .ok (.istore_n 2, 1) := by decide +kernel
theorem dX8_areHeights_88 : decode cX8_areHeights 88 = .ok (.iload_n 2, 1) := by decide +kernel
theorem dX8_areHeights_89 : decode cX8_areHeights 89 = .ok (.aload_n 0, 1) := by decide +kernel
theorem dX8_areHeights_90 : decode cX8_areHeights 90 = .ok (.getfield 47, 3) := by decide +kernel
theorem dX8_areHeights_93 : decode cX8_areHeights 93 = .ok (.if_icmp .ge 129, 3) := by decide +kernel
theorem dX8_areHeights_96 : decode cX8_areHeights 96 = .ok (.aload_n 0, 1) := by decide +kernel
theorem dX8_areHeights_97 : decode cX8_areHeights 97 = .ok (.getfield 260, 3) := by decide +kernel
theorem dX8_areHeights_100 : decode cX8_areHeights 100 = .ok (.ifnull 56, 3) := by decide +kernel
theorem dX8_areHeights_103 : decode cX8_areHeights 103 = .ok (.aload_n 0, 1) := by decide +kernel
theorem dX8_areHeights_104 : decode cX8_areHeights 104 = .ok (.getfield 58, 3) := by decide +kernel
theorem dX8_areHeights_107 : decode cX8_areHeights 107 = .ok (.iload_n 2, 1) := by decide +kernel
theorem dX8_areHeights_108 : decode cX8_areHeights 108 = .ok (.baload, 1) := by decide +kernel
theorem dX8_areHeights_109 : decode cX8_areHeights 109 = .ok (.ifCond .eq 47, 3) := by decide +kernel
theorem dX8_areHeights_112 : decode cX8_areHeights 112 = .ok (.aload_n 0, 1) := by decide +kernel
theorem dX8_areHeights_113 : decode cX8_areHeights 113 = .ok (.getfield 260, 3) := by decide +kernel
theorem dX8_areHeights_116 : decode cX8_areHeights 116 = .ok (.aload_n 0, 1) := by decide +kernel
theorem dX8_areHeights_117 : decode cX8_areHeights 117 = .ok (.getfield 52, 3) := by decide +kernel
theorem dX8_areHeights_120 : decode cX8_areHeights 120 = .ok (.iload_n 2, 1) := by decide +kernel
theorem dX8_areHeights_121 : decode cX8_areHeights 121 = .ok (.aaload, 1) := by decide +kernel
theorem dX8_areHeights_122 : decode cX8_areHeights 122 = .ok (.iconst 0, 1) := by decide +kernel
theorem dX8_areHeights_123 : decode cX8_areHeights 123 = .ok (.iaload, 1) := by decide +kernel
theorem dX8_areHeights_124 : decode cX8_areHeights 124 = .ok (.laload, 1) := by decide +kernel
theorem dX8_areHeights_125 : decode cX8_areHeights 125 = .ok (.ldc2_w 235, 3) := by decide +kernel
theorem dX8_areHeights_128 : decode cX8_areHeights 128 = .ok (.lcmp, 1) := by decide +kernel
theorem dX8_areHeights_129 : decode cX8_areHeights 129 = .ok (.ifCond .eq 27, 3) := by decide +kernel
theorem dX8_areHeights_132 : decode cX8_areHeights 132 = .ok (.aload_n 0, 1) := by decide +kernel
theorem dX8_areHeights_133 : decode cX8_areHeights 133 = .ok (.getfield 260, 3) := by decide +kernel
theorem dX8_areHeights_136 : decode cX8_areHeights 136 = .ok (.aload_n 0, 1) := by decide +kernel
theorem dX8_areHeights_137 : decode cX8_areHeights 137 = .ok (.getfield 52, 3) := by decide +kernel
theorem dX8_areHeights_140 : decode cX8_areHeights 140 = .ok (.iload_n 2, 1) := by decide +kernel
theorem dX8_areHeights_141 : decode cX8_areHeights 141 = .ok (.aaload, 1) := by decide +kernel
theorem dX8_areHeights_142 : decode cX8_areHeights 142 = .ok (.iconst 1, 1) := by decide +kernel
theorem dX8_areHeights_143 : decode cX8_areHeights 143 = .ok (.iaload, 1) := by decide +kernel
theorem dX8_areHeights_144 : decode cX8_areHeights 144 = .ok (.laload, 1) := by decide +kernel
theorem dX8_areHeights_145 : decode cX8_areHeights 145 = .ok (.ldc2_w 235, 3) := by decide +kernel
theorem dX8_areHeights_148 : decode cX8_areHeights 148 = .ok (.lcmp, 1) := by decide +kernel
theorem dX8_areHeights_149 : decode cX8_areHeights 149 = .ok (.ifCond .eq 7, 3) := by decide +kernel
theorem dX8_areHeights_152 : decode cX8_areHeights 152 = .ok (.iconst 1, 1) := by decide +kernel
theorem dX8_areHeights_153 : decode cX8_areHeights 153 = .ok (.goto 4, 3) := by decide +kernel
theorem dX8_areHeights_156 : decode cX8_areHeights 156 = .ok (.iconst 0, 1) := by decide +kernel
theorem dX8_areHeights_157 : decode cX8_areHeights 157 = .ok (.istore_n 3, 1) := by decide +kernel
theorem dX8_areHeights_158 : decode cX8_areHeights 158 = .ok (.aload_n 0, 1) := by decide +kernel
theorem dX8_areHeights_159 : decode cX8_areHeights 159 = .ok (.getfield 12, 3) := by decide +kernel
theorem dX8_areHeights_162 : decode cX8_areHeights 162 = .ok (.iload_n 2, 1) := by decide +kernel
theorem dX8_areHeights_163 : decode cX8_areHeights 163 = .ok (.invokevirtual 279, 3) := by decide +kernel
theorem dX8_areHeights_166 : decode cX8_areHeights 166 = .ok (.iload_n 3, 1) := by decide +kernel
theorem dX8_areHeights_167 : decode cX8_areHeights 167 = .ok (.ifCond .eq 40, 3) := by decide +kernel
theorem dX8_areHeights_170 : decode cX8_areHeights 170 = .ok (.aload_n 0, 1) := by decide +kernel
theorem dX8_areHeights_171 : decode cX8_areHeights 171 = .ok (.getfield 260, 3) := by decide +kernel
theorem dX8_areHeights_174 : decode cX8_areHeights 174 = .ok (.aload_n 0, 1) := by decide +kernel
theorem dX8_areHeights_175 : decode cX8_areHeights 175 = .ok (.getfield 52, 3) := by decide +kernel
theorem dX8_areHeights_178 : decode cX8_areHeights 178 = .ok (.iload_n 2, 1) := by decide +kernel
theorem dX8_areHeights_179 : decode cX8_areHeights 179 = .ok (.aaload, 1) := by decide +kernel
theorem dX8_areHeights_180 : decode cX8_areHeights 180 = .ok (.iconst 1, 1) := by decide +kernel
theorem dX8_areHeights_181 : decode cX8_areHeights 181 = .ok (.iaload, 1) := by decide +kernel
theorem dX8_areHeights_182 : decode cX8_areHeights 182 = .ok (.laload, 1) := by decide +kernel
theorem dX8_areHeights_183 : decode cX8_areHeights 183 = .ok (.aload_n 0, 1) := by decide +kernel
theorem dX8_areHeights_184 : decode cX8_areHeights 184 = .ok (.getfield 260, 3) := by decide +kernel
theorem dX8_areHeights_187 : decode cX8_areHeights 187 = .ok (.aload_n 0, 1) := by decide +kernel
theorem dX8_areHeights_188 : decode cX8_areHeights 188 = .ok (.getfield 52, 3) := by decide +kernel
theorem dX8_areHeights_191 : decode cX8_areHeights 191 = .ok (.iload_n 2, 1) := by decide +kernel
theorem dX8_areHeights_192 : decode cX8_areHeights 192 = .ok (.aaload, 1) := by decide +kernel
theorem dX8_areHeights_193 : decode cX8_areHeights 193 = .ok (.iconst 0, 1) := by decide +kernel
theorem dX8_areHeights_194 : decode cX8_areHeights 194 = .ok (.iaload, 1) := by decide +kernel
theorem dX8_areHeights_195 : decode cX8_areHeights 195 = .ok (.laload, 1) := by decide +kernel
theorem dX8_areHeights_196 : decode cX8_areHeights 196 = .ok (.lsub, 1) := by decide +kernel
theorem dX8_areHeights_197 : decode cX8_areHeights 197 = .ok (.aload_n 0, 1) := by decide +kernel
theorem dX8_areHeights_198 : decode cX8_areHeights 198 = .ok (.iload_n 2, 1) := by decide +kernel
theorem dX8_areHeights_199 : decode cX8_areHeights 199 = .ok (.invokevirtual 165, 3) := by decide +kernel
theorem dX8_areHeights_202 : decode cX8_areHeights 202 = .ok (.i2l, 1) := by decide +kernel
theorem dX8_areHeights_203 : decode cX8_areHeights 203 = .ok (.lsub, 1) := by decide +kernel
theorem dX8_areHeights_204 : decode cX8_areHeights 204 = .ok (.goto 6, 3) := by decide +kernel
theorem dX8_areHeights_207 : decode cX8_areHeights 207 = .ok (.ldc2_w 235, 3) := by decide +kernel
theorem dX8_areHeights_210 : decode cX8_areHeights 210 = .ok (.lcmp, 1) := by decide +kernel
theorem dX8_areHeights_211 : decode cX8_areHeights 211 = .ok (.ifCond .eq 5, 3) := by decide +kernel
theorem dX8_areHeights_214 : decode cX8_areHeights 214 = .ok (.iconst 0, 1) := by decide +kernel
theorem dX8_areHeights_215 : decode cX8_areHeights 215 = .ok (.ireturn, 1) := by decide +kernel
theorem dX8_areHeights_216 : decode cX8_areHeights 216 = .ok (.iinc 2 1, 3) := by decide +kernel
theorem dX8_areHeights_219 : decode cX8_areHeights 219 = .ok (.goto (-131), 3) := by decide +kernel
theorem dX8_areHeights_222 : decode cX8_areHeights 222 = .ok (.aload_n 0, 1) := by decide +kernel
theorem dX8_areHeights_223 : decode cX8_areHeights 223 = .ok (.getfield 12, 3) := by decide +kernel
theorem dX8_areHeights_226 : decode cX8_areHeights 226 = .ok (.invokevirtual 284, 3) := by decide +kernel
theorem dX8_areHeights_229 : decode cX8_areHeights 229 = .ok (.aload_n 0, 1) := by decide +kernel
theorem dX8_areHeights_230 : decode cX8_areHeights 230 = .ok (.getfield 260, 3) := by decide +kernel
theorem dX8_areHeights_233 : decode cX8_areHeights 233 = .ok (.ifnull 7, 3) := by decide +kernel
theorem dX8_areHeights_236 : decode cX8_areHeights 236 = .ok (.iconst 1, 1) := by decide +kernel
theorem dX8_areHeights_237 : decode cX8_areHeights 237 = .ok (.goto 4, 3) := by decide +kernel
theorem dX8_areHeights_240 : decode cX8_areHeights 240 = .ok (.iconst 0, 1) := by decide +kernel
theorem dX8_areHeights_241 : decode cX8_areHeights 241 = .ok (.if_icmp .ne 7, 3) := by decide +kernel
theorem dX8_areHeights_244 : decode cX8_areHeights 244 = .ok (.iconst 1, 1) := by decide +kernel
theorem dX8_areHeights_245 : decode cX8_areHeights 245 = .ok (.goto 4, 3) := by decide +kernel
theorem dX8_areHeights_248 : decode cX8_areHeights 248 = .ok (.iconst 0, 1) := by decide +kernel
theorem dX8_areHeights_249 : decode cX8_areHeights 249 = .ok (.ireturn, 1) := by decide +kernel
def j_L_areHeights_57 (x2 : Int32) (y0 : Int64) (y1 : Int64) (z0 : Nat → Int64) (ν μ : gM) : Option ((Int32 × (Nat → Int64) × gM) ⊕ ((gM) ⊕ ((Bool) × gM))) :=
  if (y0 = y1) then Option.bind (f_X7_heldAt x2 μ) (fun q10 => gchk (gIn x2 16) (if (q10 = (gi ν 2 x2.toNatClampNeg)) then some (.inl ((x2 + (1 : Int32)), z0, μ)) else some (.inr (.inr (false, μ))))) else some (.inr (.inr (false, μ)))
set_option maxHeartbeats 4000000 in
set_option maxRecDepth 100000 in
theorem wj_L_areHeights_57 {p : Program} {l : Launch} {e : Env} {s : State} {m : MethodId} {args : Array Value} {below : List Frame} {meth : Method} {c : Code} {D : va_G} {cy : Nat → ClassId} {ad : Nat → Nat} {b : Nat} {la : Nat → Nat → Nat} {ν : gM} {P P0 : va_W} {x2 : Int32} {y0 : Int64} {y1 : Int64} {z0 : Nat → Int64} {μ : gM} {a2 : Nat} {o : (Int32 × (Nat → Int64) × gM) ⊕ ((gM) ⊕ ((Bool) × gM))} {RES : (Bool) × gM} {cells slots C0 S0 CM SM : Nat} (h : j_L_areHeights_57 x2 y0 y1 z0 ν μ = some o) (F : gF p s m meth c cX8_areHeights RX8 4 (some .boolean)) (E : hE l D cy ad b s) (hY : lY cy ad la ν P) (hPd : ∀ (μ : gM) (H : Heap), hW D cy ad b μ P [] H → hW D cy ad b μ P0 [] H) (hc : cells + 0 ≤ C0) (hs : slots + 0 ≤ S0) (hcm : C0 ≤ CM) (hsm : S0 ≤ SM) (hcr : CM ≤ 123) (hsr : SM ≤ 508) (kc : ∀ (t : Int32 × (Nat → Int64) × gM) {H : Heap} {locs : List Loc} {ls : Array Slot}, o = .inl t → hW D cy ad b t.2.2 P [(a2, .inl (cy 1, lPt ν, .inr (.inl t.2.1)))] H → va_S (hA b) s.heap H locs → lv_has ls 4 [(0, .ref (la 0 0)), (1, .ref a2), (2, .int t.1)] → W p l e ({ frames := 6, cells := 123, slots := 508, locals := 137 } : Room) s m args below meth c H locs C0 S0 (MQ below (hQ b (fun rv H => rv = some (.int (b2i RES.1)) ∧ hW D cy ad b RES.2 P0 [] H)) args s 123 508 (hA b)) (F0 m 7 ls [])) (kx : ∀ (t : gM) {H : Heap} {locs : List Loc} {ls : Array Slot}, o = .inr (.inl t) → hW D cy ad b t P [] H → va_S (hA b) s.heap H locs → lv_has ls 4 [(0, .ref (la 0 0))] → W p l e ({ frames := 6, cells := 123, slots := 508, locals := 137 } : Room) s m args below meth c H locs CM SM (MQ below (hQ b (fun rv H => rv = some (.int (b2i RES.1)) ∧ hW D cy ad b RES.2 P0 [] H)) args s 123 508 (hA b)) (F0 m 86 ls [])) (kr : ∀ x : (Bool) × gM, o = .inr (.inr x) → x = RES) {H : Heap} {locs : List Loc} {ls : Array Slot} (hM : hW D cy ad b μ P [(a2, .inl (cy 1, lPt ν, .inr (.inl z0)))] H) (hS : va_S (hA b) s.heap H locs) (hl : lv_has ls 4 [(0, .ref (la 0 0)), (1, .ref a2), (2, .int x2)]) : W p l e ({ frames := 6, cells := 123, slots := 508, locals := 137 } : Room) s m args below meth c H locs cells slots (MQ below (hQ b (fun rv H => rv = some (.int (b2i RES.1)) ∧ hW D cy ad b RES.2 P0 [] H)) args s 123 508 (hA b)) (F0 m 57 ls [.long y1, .long y0]) := by
  obtain ⟨hx, hb, hml, hown, hlocks, hr⟩ := id F
  unfold j_L_areHeights_57 at h
  refine W.lcmp hx hb dX8_areHeights_57 ?_
  refine lv_if_ne (tgt := 78) hx hb dX8_areHeights_58 (by decide) (fun c9 => ?_) (fun c9 => ?_)
  · replace c9 := fun w => c9 ((lg_cmp_eq _ _).mpr w)
    replace h := gif_f c9 h
    refine lv_iconst (v := (0 : Int32)) hx hb dX8_areHeights_78 (by decide) ?_
    obtain rfl := kr _ (Option.some.inj h).symm
    exact h_zret (v := b2i false) hx hb hr hlocks (by omega) (by omega) (b2i_nar false) ⟨rfl, hPd _ _ (hW.drop hM)⟩ hS dX8_areHeights_79
  · replace c9 := (lg_cmp_eq _ _).mp c9
    replace h := gif_t c9 h
    refine lv_aload_n hx hb dX8_areHeights_61 rfl (lv_at hl 0 rfl) ?_
    refine h_get hx hb hown E hM (hp_m (hY.c1 0 rfl)) gC_X8 0 (by decide) (v := .ref (ad 0)) rfl kw_1023 dX8_areHeights_62 ?_
    refine lv_iload_n hx hb dX8_areHeights_65 rfl (lv_at hl 2 rfl) ?_
    obtain ⟨q10, hq10, h⟩ := gbind_e h
    refine h_callC (As := [.int x2]) (rest := []) hx hb (hml.trans hl.1.symm) hown E hM hS hy_X7_heldAt kw_1476 (c_X7_heldAt hq10) hk_0 dd_0 rfl rfl rfl (Nat.le_of_ble_eq_true rfl) ⟨(Nat.le_of_ble_eq_true rfl), (Nat.le_of_ble_eq_true rfl)⟩ ⟨(show _ ≤ 123 by omega), (show _ ≤ 508 by omega)⟩ dX8_areHeights_66 (fun H locs hM hS => ?_)
    refine lv_aload_n hx hb dX8_areHeights_69 rfl (lv_at hl 0 rfl) ?_
    refine h_get hx hb hown E hM (hp_m (hY.c1 0 rfl)) gC_X8 4 (by decide) (v := .ref (la 2 0)) rfl kw_1028 dX8_areHeights_70 ?_
    refine lv_iload_n hx hb dX8_areHeights_73 rfl (lv_at hl 2 rfl) ?_
    obtain ⟨c11, h⟩ := gchk_e h
    refine l_iald hx hb E hM (hp_m (hY.c1 2 rfl)) c11 (v := (gi ν 2 x2.toNatClampNeg)) rfl dX8_areHeights_74 ?_
    refine lv_icmp_eq (tgt := 80) hx hb dX8_areHeights_75 (by decide) (fun c12 => ?_) (fun c12 => ?_)
    · replace h := gif_t c12 h
      refine lv_iinc (v := (x2 + (1 : Int32))) (lv' := [(2, .int (x2 + (1 : Int32))), (0, .ref (la 0 0)), (1, .ref a2)]) hx hb dX8_areHeights_80 hl (k := 2) rfl rfl (by decide) rfl (fun ls hl => ?_)
      refine lv_goto (tgt := 7) hx hb dX8_areHeights_83 (by decide) ?_
      refine W.widen (k := C0) (n := S0) (by omega) (by omega) ?_
      exact kc _ (Option.some.inj h).symm hM hS (lv_sub hl [1, 2, 0] rfl)
    · replace h := gif_f c12 h
      refine lv_iconst (v := (0 : Int32)) hx hb dX8_areHeights_78 (by decide) ?_
      obtain rfl := kr _ (Option.some.inj h).symm
      exact h_zret (v := b2i false) hx hb hr hlocks (by omega) (by omega) (b2i_nar false) ⟨rfl, hPd _ _ (hW.drop hM)⟩ hS dX8_areHeights_79
def b_L_areHeights_7 (x2 : Int32) (z0 : Nat → Int64) (ν μ : gM) : Option ((Int32 × (Nat → Int64) × gM) ⊕ ((gM) ⊕ ((Bool) × gM))) :=
  if ((gi ν 0 1) ≤ x2) then some (.inr (.inl μ)) else Option.bind (f_X7_provisional x2 μ) (fun q4 => gchk (gIn x2 (lPt ν)) (if (q4.1 = (z0 x2.toNatClampNeg)) then Option.bind (f_X7_heightOf x2 q4.2) (fun q7 => if gi ν 0 10 = 0 then j_L_areHeights_57 x2 q7 (-9223372036854775808 : Int64) z0 ν q4.2 else gchk (¬ gi ν 0 10 = 0) (gchk (gIn x2 (lPt ν)) (j_L_areHeights_57 x2 q7 (gl ν 9 x2.toNatClampNeg) z0 ν q4.2))) else some (.inr (.inr (false, q4.2)))))
set_option maxHeartbeats 4000000 in
set_option maxRecDepth 100000 in
theorem wb_L_areHeights_7 {p : Program} {l : Launch} {e : Env} {s : State} {m : MethodId} {args : Array Value} {below : List Frame} {meth : Method} {c : Code} {D : va_G} {cy : Nat → ClassId} {ad : Nat → Nat} {b : Nat} {la : Nat → Nat → Nat} {ν : gM} {P P0 : va_W} {x2 : Int32} {z0 : Nat → Int64} {μ : gM} {a2 : Nat} {o : (Int32 × (Nat → Int64) × gM) ⊕ ((gM) ⊕ ((Bool) × gM))} {RES : (Bool) × gM} {cells slots C0 S0 CM SM : Nat} (h : b_L_areHeights_7 x2 z0 ν μ = some o) (F : gF p s m meth c cX8_areHeights RX8 4 (some .boolean)) (E : hE l D cy ad b s) (hY : lY cy ad la ν P) (hPd : ∀ (μ : gM) (H : Heap), hW D cy ad b μ P [] H → hW D cy ad b μ P0 [] H) (hc : cells + 0 ≤ C0) (hs : slots + 0 ≤ S0) (hcm : C0 ≤ CM) (hsm : S0 ≤ SM) (hcr : CM ≤ 123) (hsr : SM ≤ 508) (kc : ∀ (t : Int32 × (Nat → Int64) × gM) {H : Heap} {locs : List Loc} {ls : Array Slot}, o = .inl t → hW D cy ad b t.2.2 P [(a2, .inl (cy 1, lPt ν, .inr (.inl t.2.1)))] H → va_S (hA b) s.heap H locs → lv_has ls 4 [(0, .ref (la 0 0)), (1, .ref a2), (2, .int t.1)] → W p l e ({ frames := 6, cells := 123, slots := 508, locals := 137 } : Room) s m args below meth c H locs C0 S0 (MQ below (hQ b (fun rv H => rv = some (.int (b2i RES.1)) ∧ hW D cy ad b RES.2 P0 [] H)) args s 123 508 (hA b)) (F0 m 7 ls [])) (kx : ∀ (t : gM) {H : Heap} {locs : List Loc} {ls : Array Slot}, o = .inr (.inl t) → hW D cy ad b t P [] H → va_S (hA b) s.heap H locs → lv_has ls 4 [(0, .ref (la 0 0))] → W p l e ({ frames := 6, cells := 123, slots := 508, locals := 137 } : Room) s m args below meth c H locs CM SM (MQ below (hQ b (fun rv H => rv = some (.int (b2i RES.1)) ∧ hW D cy ad b RES.2 P0 [] H)) args s 123 508 (hA b)) (F0 m 86 ls [])) (kr : ∀ x : (Bool) × gM, o = .inr (.inr x) → x = RES) {H : Heap} {locs : List Loc} {ls : Array Slot} (hM : hW D cy ad b μ P [(a2, .inl (cy 1, lPt ν, .inr (.inl z0)))] H) (hS : va_S (hA b) s.heap H locs) (hl : lv_has ls 4 [(0, .ref (la 0 0)), (1, .ref a2), (2, .int x2)]) : W p l e ({ frames := 6, cells := 123, slots := 508, locals := 137 } : Room) s m args below meth c H locs cells slots (MQ below (hQ b (fun rv H => rv = some (.int (b2i RES.1)) ∧ hW D cy ad b RES.2 P0 [] H)) args s 123 508 (hA b)) (F0 m 7 ls []) := by
  obtain ⟨hx, hb, hml, hown, hlocks, hr⟩ := id F
  unfold b_L_areHeights_7 at h
  refine lv_iload_n hx hb dX8_areHeights_7 rfl (lv_at hl 2 rfl) ?_
  refine lv_aload_n hx hb dX8_areHeights_8 rfl (lv_at hl 0 rfl) ?_
  refine h_get hx hb hown E hM (hp_m (hY.c1 0 rfl)) gC_X8 1 (by decide) (v := .int (gi ν 0 1)) rfl kw_1025 dX8_areHeights_9 ?_
  refine lv_icmp_ge (tgt := 86) hx hb dX8_areHeights_12 (by decide) (fun c3 => ?_) (fun c3 => ?_)
  · replace h := gif_t c3 h
    replace hM := hW.drop hM
    refine W.widen (k := CM) (n := SM) (by omega) (by omega) ?_
    exact kx _ (Option.some.inj h).symm hM hS (lv_sub hl [0] rfl)
  · replace h := gif_f c3 h
    refine lv_aload_n hx hb dX8_areHeights_15 rfl (lv_at hl 0 rfl) ?_
    refine h_get hx hb hown E hM (hp_m (hY.c1 0 rfl)) gC_X8 0 (by decide) (v := .ref (ad 0)) rfl kw_1023 dX8_areHeights_16 ?_
    refine lv_iload_n hx hb dX8_areHeights_19 rfl (lv_at hl 2 rfl) ?_
    obtain ⟨q4, hq4, h⟩ := gbind_e h
    refine h_callC (As := [.int x2]) (rest := []) hx hb (hml.trans hl.1.symm) hown E hM hS hy_X7_provisional kw_1463 (c_X7_provisional hq4) hk_0 dd_0 rfl rfl rfl (Nat.le_of_ble_eq_true rfl) ⟨(Nat.le_of_ble_eq_true rfl), (Nat.le_of_ble_eq_true rfl)⟩ ⟨(show _ ≤ 123 by omega), (show _ ≤ 508 by omega)⟩ dX8_areHeights_20 (fun H locs hM hS => ?_)
    refine lv_aload_n hx hb dX8_areHeights_23 rfl (lv_at hl 1 rfl) ?_
    refine lv_iload_n hx hb dX8_areHeights_24 rfl (lv_at hl 2 rfl) ?_
    obtain ⟨c5, h⟩ := gchk_e h
    refine l_lald hx hb E hM (ht_m List.mem_cons_self) c5 (v := (z0 x2.toNatClampNeg)) rfl dX8_areHeights_25 ?_
    refine W.lcmp hx hb dX8_areHeights_26 ?_
    refine lv_if_ne (tgt := 78) hx hb dX8_areHeights_27 (by decide) (fun c6 => ?_) (fun c6 => ?_)
    · replace c6 := fun w => c6 ((lg_cmp_eq _ _).mpr w)
      replace h := gif_f c6 h
      refine lv_iconst (v := (0 : Int32)) hx hb dX8_areHeights_78 (by decide) ?_
      obtain rfl := kr _ (Option.some.inj h).symm
      exact h_zret (v := b2i false) hx hb hr hlocks (by omega) (by omega) (b2i_nar false) ⟨rfl, hPd _ _ (hW.drop hM)⟩ hS dX8_areHeights_79
    · replace c6 := (lg_cmp_eq _ _).mp c6
      replace h := gif_t c6 h
      refine lv_aload_n hx hb dX8_areHeights_30 rfl (lv_at hl 0 rfl) ?_
      refine h_get hx hb hown E hM (hp_m (hY.c1 0 rfl)) gC_X8 0 (by decide) (v := .ref (ad 0)) rfl kw_1023 dX8_areHeights_31 ?_
      refine lv_iload_n hx hb dX8_areHeights_34 rfl (lv_at hl 2 rfl) ?_
      obtain ⟨q7, hq7, h⟩ := gbind_e h
      refine h_callC (As := [.int x2]) (rest := []) hx hb (hml.trans hl.1.symm) hown E hM hS hy_X7_heightOf kw_1468 (c_X7_heightOf hq7) hk_0 dd_0 rfl rfl rfl (Nat.le_of_ble_eq_true rfl) ⟨(Nat.le_of_ble_eq_true rfl), (Nat.le_of_ble_eq_true rfl)⟩ ⟨(show _ ≤ 123 by omega), (show _ ≤ 508 by omega)⟩ dX8_areHeights_35 (fun H locs hM hS => ?_)
      refine lv_aload_n hx hb dX8_areHeights_38 rfl (lv_at hl 0 rfl) ?_
      refine h_get hx hb hown E hM (hp_m (hY.c1 0 rfl)) gC_X8 10 (by decide) (v := lHv la ν) rfl kw_1034 dX8_areHeights_39 ?_
      by_cases c8 : gi ν 0 10 = 0
      · replace h := gif_t c8 h
        rw [lHv_n c8]
        refine lv_ifnonnullN hx hb dX8_areHeights_42 ?_
        refine lv_ldc2 hx hb hown (v := (-9223372036854775808 : Int64)) (E.kw kw_1406) dX8_areHeights_45 ?_
        refine lv_goto (tgt := 57) hx hb dX8_areHeights_48 (by decide) ?_
        exact wj_L_areHeights_57 h F E hY hPd  (by omega) (by omega) hcm hsm hcr hsr kc kx kr hM hS hl
      · replace h := gif_f c8 h
        rw [lHv_a c8]
        refine lv_ifnonnull (tgt := 51) hx hb dX8_areHeights_42 (by decide) ?_
        refine lv_aload_n hx hb dX8_areHeights_51 rfl (lv_at hl 0 rfl) ?_
        obtain ⟨c13, h⟩ := gchk_e h
        refine h_get hx hb hown E hM (hp_m (hY.c1 0 rfl)) gC_X8 10 (by decide) (v := .ref (la 9 0)) (by rw [← lHv_a c13]; rfl) kw_1034 dX8_areHeights_52 ?_
        refine lv_iload_n hx hb dX8_areHeights_55 rfl (lv_at hl 2 rfl) ?_
        obtain ⟨c14, h⟩ := gchk_e h
        refine l_lald hx hb E hM (hp_m (hY.c4 c13)) c14 (v := (gl ν 9 x2.toNatClampNeg)) rfl dX8_areHeights_56 ?_
        exact wj_L_areHeights_57 h F E hY hPd  (by omega) (by omega) hcm hsm hcr hsr kc kx kr hM hS hl
set_option maxHeartbeats 4000000 in
theorem wl_L_areHeights_7 {p : Program} {l : Launch} {e : Env} {s : State} {m : MethodId} {args : Array Value} {below : List Frame} {meth : Method} {c : Code} {D : va_G} {cy : Nat → ClassId} {ad : Nat → Nat} {b : Nat} {la : Nat → Nat → Nat} {ν : gM} {P P0 : va_W}    {a2 : Nat} {r : (gM) ⊕ ((Bool) × gM)} {RES : (Bool) × gM} {CM SM : Nat} (F : gF p s m meth c cX8_areHeights RX8 4 (some .boolean)) (E : hE l D cy ad b s) (hY : lY cy ad la ν P) (hPd : ∀ (μ : gM) (H : Heap), hW D cy ad b μ P [] H → hW D cy ad b μ P0 [] H) (hcr : CM ≤ 123) (hsr : SM ≤ 508) (kx : ∀ (t : gM) {H : Heap} {locs : List Loc} {ls : Array Slot}, r = .inl t → hW D cy ad b t P [] H → va_S (hA b) s.heap H locs → lv_has ls 4 [(0, .ref (la 0 0))] → W p l e ({ frames := 6, cells := 123, slots := 508, locals := 137 } : Room) s m args below meth c H locs CM SM (MQ below (hQ b (fun rv H => rv = some (.int (b2i RES.1)) ∧ hW D cy ad b RES.2 P0 [] H)) args s 123 508 (hA b)) (F0 m 86 ls [])) (kr : ∀ x : (Bool) × gM, r = .inr x → x = RES) : ∀ (n : Nat) (x2 : Int32) (z0 : Nat → Int64) (μ : gM) {cells slots : Nat}, cells + n * 0 ≤ CM → slots + n * 0 ≤ SM → gloop (fun t => b_L_areHeights_7  t.1 t.2.1 ν t.2.2) n (x2, z0, μ) = some r → ∀ {H : Heap} {locs : List Loc} {ls : Array Slot}, hW D cy ad b μ P [(a2, .inl (cy 1, lPt ν, .inr (.inl z0)))] H → va_S (hA b) s.heap H locs → lv_has ls 4 [(0, .ref (la 0 0)), (1, .ref a2), (2, .int x2)] → W p l e ({ frames := 6, cells := 123, slots := 508, locals := 137 } : Room) s m args below meth c H locs cells slots (MQ below (hQ b (fun rv H => rv = some (.int (b2i RES.1)) ∧ hW D cy ad b RES.2 P0 [] H)) args s 123 508 (hA b)) (F0 m 7 ls []) := by
  intro n
  induction n with
  | zero =>
    intro x2 z0 μ cells slots hc hs h
    exact (gloop_0 h).elim
  | succ n ih =>
    intro x2 z0 μ cells slots hc hs h H locs ls hM hS hl
    obtain ⟨o, h0, hcc, hq⟩ := gloop_s h
    have h1 : b_L_areHeights_7 x2 z0 ν μ = some o := h0
    exact wb_L_areHeights_7 (C0 := cells + 0) (S0 := slots + 0) (CM := CM) (SM := SM) h1 F E hY hPd  (by omega) (by omega) (by omega) (by omega) hcr hsr (fun t H locs ls ho hM hS hl => ih t.1 t.2.1 t.2.2 (by omega) (by omega) (hcc t ho) hM hS hl) (fun t H locs ls ho hM hS hl => kx t (hq _ ho).symm hM hS hl) (fun x ho => kr x (hq _ ho).symm) hM hS hl
def j_L_areHeights_210 (x2 : Int32) (y0 : Int64) (y1 : Int64) (ν μ : gM) : Option ((Int32) ⊕ ((Unit) ⊕ ((Bool) × gM))) :=
  if (y0 = y1) then some (.inl (x2 + (1 : Int32))) else some (.inr (.inr (false, μ)))
set_option maxHeartbeats 4000000 in
set_option maxRecDepth 100000 in
theorem wj_L_areHeights_210 {p : Program} {l : Launch} {e : Env} {s : State} {m : MethodId} {args : Array Value} {below : List Frame} {meth : Method} {c : Code} {D : va_G} {cy : Nat → ClassId} {ad : Nat → Nat} {b : Nat} {la : Nat → Nat → Nat} {ν : gM} {P P0 : va_W} {x2 : Int32} {y0 : Int64} {y1 : Int64} {μ : gM}  {o : (Int32) ⊕ ((Unit) ⊕ ((Bool) × gM))} {RES : (Bool) × gM} {cells slots C0 S0 CM SM : Nat} (h : j_L_areHeights_210 x2 y0 y1 ν μ = some o) (F : gF p s m meth c cX8_areHeights RX8 4 (some .boolean)) (E : hE l D cy ad b s) (hY : lY cy ad la ν P) (hPd : ∀ (μ : gM) (H : Heap), hW D cy ad b μ P [] H → hW D cy ad b μ P0 [] H) (hc : cells + 0 ≤ C0) (hs : slots + 0 ≤ S0) (hcm : C0 ≤ CM) (hsm : S0 ≤ SM) (hcr : CM ≤ 123) (hsr : SM ≤ 508) (kc : ∀ (t : Int32) {H : Heap} {locs : List Loc} {ls : Array Slot}, o = .inl t → hW D cy ad b μ P [] H → va_S (hA b) s.heap H locs → lv_has ls 4 [(0, .ref (la 0 0)), (2, .int t)] → W p l e ({ frames := 6, cells := 123, slots := 508, locals := 137 } : Room) s m args below meth c H locs C0 S0 (MQ below (hQ b (fun rv H => rv = some (.int (b2i RES.1)) ∧ hW D cy ad b RES.2 P0 [] H)) args s 123 508 (hA b)) (F0 m 88 ls [])) (kx : ∀ (t : Unit) {H : Heap} {locs : List Loc} {ls : Array Slot}, o = .inr (.inl t) → hW D cy ad b μ P [] H → va_S (hA b) s.heap H locs → lv_has ls 4 [(0, .ref (la 0 0))] → W p l e ({ frames := 6, cells := 123, slots := 508, locals := 137 } : Room) s m args below meth c H locs CM SM (MQ below (hQ b (fun rv H => rv = some (.int (b2i RES.1)) ∧ hW D cy ad b RES.2 P0 [] H)) args s 123 508 (hA b)) (F0 m 222 ls [])) (kr : ∀ x : (Bool) × gM, o = .inr (.inr x) → x = RES) {H : Heap} {locs : List Loc} {ls : Array Slot} (hM : hW D cy ad b μ P [] H) (hS : va_S (hA b) s.heap H locs) (hl : lv_has ls 4 [(0, .ref (la 0 0)), (2, .int x2)]) : W p l e ({ frames := 6, cells := 123, slots := 508, locals := 137 } : Room) s m args below meth c H locs cells slots (MQ below (hQ b (fun rv H => rv = some (.int (b2i RES.1)) ∧ hW D cy ad b RES.2 P0 [] H)) args s 123 508 (hA b)) (F0 m 210 ls [.long y1, .long y0]) := by
  obtain ⟨hx, hb, hml, hown, hlocks, hr⟩ := id F
  unfold j_L_areHeights_210 at h
  refine W.lcmp hx hb dX8_areHeights_210 ?_
  refine lv_if_eq (tgt := 216) hx hb dX8_areHeights_211 (by decide) (fun c21 => ?_) (fun c21 => ?_)
  · replace c21 := (lg_cmp_eq _ _).mp c21
    replace h := gif_t c21 h
    refine lv_iinc (v := (x2 + (1 : Int32))) (lv' := [(2, .int (x2 + (1 : Int32))), (0, .ref (la 0 0))]) hx hb dX8_areHeights_216 hl (k := 1) rfl rfl (by decide) rfl (fun ls hl => ?_)
    refine lv_goto (tgt := 88) hx hb dX8_areHeights_219 (by decide) ?_
    refine W.widen (k := C0) (n := S0) (by omega) (by omega) ?_
    exact kc _ (Option.some.inj h).symm hM hS (lv_sub hl [1, 0] rfl)
  · replace c21 := fun w => c21 ((lg_cmp_eq _ _).mpr w)
    replace h := gif_f c21 h
    refine lv_iconst (v := (0 : Int32)) hx hb dX8_areHeights_214 (by decide) ?_
    obtain rfl := kr _ (Option.some.inj h).symm
    exact h_zret (v := b2i false) hx hb hr hlocks (by omega) (by omega) (b2i_nar false) ⟨rfl, hPd _ _ (hW.drop hM)⟩ hS dX8_areHeights_215
def j_L_areHeights_157 (x2 : Int32) (y0 : Int32) (ν μ : gM) : Option ((Int32) ⊕ ((Unit) ⊕ ((Bool) × gM))) :=
  Option.bind (f_X7_residual x2 μ) (fun q19 => if (y0 = 0) then j_L_areHeights_210 x2 q19 (-9223372036854775808 : Int64) ν μ else gchk (¬ gi ν 0 10 = 0) (gchk (gIn x2 (lLn ν)) (gchk (gIn (gi ν (20 + x2.toNatClampNeg) 1) (lPt ν)) (gchk (¬ gi ν 0 10 = 0) (gchk (gIn x2 (lLn ν)) (gchk (gIn (gi ν (20 + x2.toNatClampNeg) 0) (lPt ν)) (Option.bind (f_L_rise x2 ν μ) (fun q30 => j_L_areHeights_210 x2 q19 (((gl ν 9 (gi ν (20 + x2.toNatClampNeg) 1).toNatClampNeg) - (gl ν 9 (gi ν (20 + x2.toNatClampNeg) 0).toNatClampNeg)) - q30.toInt64) ν μ))))))))
set_option maxHeartbeats 4000000 in
set_option maxRecDepth 100000 in
theorem wj_L_areHeights_157 {p : Program} {l : Launch} {e : Env} {s : State} {m : MethodId} {args : Array Value} {below : List Frame} {meth : Method} {c : Code} {D : va_G} {cy : Nat → ClassId} {ad : Nat → Nat} {b : Nat} {la : Nat → Nat → Nat} {ν : gM} {P P0 : va_W} {x2 : Int32} {y0 : Int32} {μ : gM}  {o : (Int32) ⊕ ((Unit) ⊕ ((Bool) × gM))} {RES : (Bool) × gM} {cells slots C0 S0 CM SM : Nat} (h : j_L_areHeights_157 x2 y0 ν μ = some o) (F : gF p s m meth c cX8_areHeights RX8 4 (some .boolean)) (E : hE l D cy ad b s) (hY : lY cy ad la ν P) (hPd : ∀ (μ : gM) (H : Heap), hW D cy ad b μ P [] H → hW D cy ad b μ P0 [] H) (hc : cells + 1 ≤ C0) (hs : slots + 4 ≤ S0) (hcm : C0 ≤ CM) (hsm : S0 ≤ SM) (hcr : CM ≤ 123) (hsr : SM ≤ 508) (kc : ∀ (t : Int32) {H : Heap} {locs : List Loc} {ls : Array Slot}, o = .inl t → hW D cy ad b μ P [] H → va_S (hA b) s.heap H locs → lv_has ls 4 [(0, .ref (la 0 0)), (2, .int t)] → W p l e ({ frames := 6, cells := 123, slots := 508, locals := 137 } : Room) s m args below meth c H locs C0 S0 (MQ below (hQ b (fun rv H => rv = some (.int (b2i RES.1)) ∧ hW D cy ad b RES.2 P0 [] H)) args s 123 508 (hA b)) (F0 m 88 ls [])) (kx : ∀ (t : Unit) {H : Heap} {locs : List Loc} {ls : Array Slot}, o = .inr (.inl t) → hW D cy ad b μ P [] H → va_S (hA b) s.heap H locs → lv_has ls 4 [(0, .ref (la 0 0))] → W p l e ({ frames := 6, cells := 123, slots := 508, locals := 137 } : Room) s m args below meth c H locs CM SM (MQ below (hQ b (fun rv H => rv = some (.int (b2i RES.1)) ∧ hW D cy ad b RES.2 P0 [] H)) args s 123 508 (hA b)) (F0 m 222 ls [])) (kr : ∀ x : (Bool) × gM, o = .inr (.inr x) → x = RES) {H : Heap} {locs : List Loc} {ls : Array Slot} (hM : hW D cy ad b μ P [] H) (hS : va_S (hA b) s.heap H locs) (hl : lv_has ls 4 [(0, .ref (la 0 0)), (2, .int x2)]) : W p l e ({ frames := 6, cells := 123, slots := 508, locals := 137 } : Room) s m args below meth c H locs cells slots (MQ below (hQ b (fun rv H => rv = some (.int (b2i RES.1)) ∧ hW D cy ad b RES.2 P0 [] H)) args s 123 508 (hA b)) (F0 m 157 ls [.int y0]) := by
  obtain ⟨hx, hb, hml, hown, hlocks, hr⟩ := id F
  unfold j_L_areHeights_157 at h
  refine lv_istore_n (lv' := [(3, .int y0), (0, .ref (la 0 0)), (2, .int x2)]) hx hb dX8_areHeights_157 rfl hl (by decide) rfl (fun ls hl => ?_)
  refine lv_aload_n hx hb dX8_areHeights_158 rfl (lv_at hl 1 rfl) ?_
  refine h_get hx hb hown E hM (hp_m (hY.c1 0 rfl)) gC_X8 0 (by decide) (v := .ref (ad 0)) rfl kw_1023 dX8_areHeights_159 ?_
  refine lv_iload_n hx hb dX8_areHeights_162 rfl (lv_at hl 2 rfl) ?_
  obtain ⟨q19, hq19, h⟩ := gbind_e h
  refine h_callC (As := [.int x2]) (rest := []) hx hb (hml.trans hl.1.symm) hown E hM hS hy_X7_residual kw_1480 (c_X7_residual hq19) hk_0 dd_0 rfl rfl rfl (Nat.le_of_ble_eq_true rfl) ⟨(Nat.le_of_ble_eq_true rfl), (Nat.le_of_ble_eq_true rfl)⟩ ⟨(show _ ≤ 123 by omega), (show _ ≤ 508 by omega)⟩ dX8_areHeights_163 (fun H locs hM hS => ?_)
  refine lv_iload_n hx hb dX8_areHeights_166 rfl (lv_at hl 0 rfl) ?_
  refine lv_if_eq (tgt := 207) hx hb dX8_areHeights_167 (by decide) (fun c20 => ?_) (fun c20 => ?_)
  · replace h := gif_t c20 h
    refine lv_ldc2 hx hb hown (v := (-9223372036854775808 : Int64)) (E.kw kw_1406) dX8_areHeights_207 ?_
    exact wj_L_areHeights_210 h F E hY hPd  (by omega) (by omega) hcm hsm hcr hsr kc kx kr hM hS (lv_sub hl [1, 2] rfl)
  · replace h := gif_f c20 h
    refine lv_aload_n hx hb dX8_areHeights_170 rfl (lv_at hl 1 rfl) ?_
    obtain ⟨c22, h⟩ := gchk_e h
    refine h_get hx hb hown E hM (hp_m (hY.c1 0 rfl)) gC_X8 10 (by decide) (v := .ref (la 9 0)) (by rw [← lHv_a c22]; rfl) kw_1034 dX8_areHeights_171 ?_
    refine lv_aload_n hx hb dX8_areHeights_174 rfl (lv_at hl 1 rfl) ?_
    refine h_get hx hb hown E hM (hp_m (hY.c1 0 rfl)) gC_X8 5 (by decide) (v := .ref (la 3 0)) rfl kw_1029 dX8_areHeights_175 ?_
    refine lv_iload_n hx hb dX8_areHeights_178 rfl (lv_at hl 2 rfl) ?_
    obtain ⟨c23, h⟩ := gchk_e h
    refine h_rald hx hb E hM (hp_m (hY.c1 3 rfl)) c23 (v := .ref (la 20 x2.toNatClampNeg)) (x_lrf c23) dX8_areHeights_179 ?_
    refine lv_iconst (v := (1 : Int32)) hx hb dX8_areHeights_180 (by decide) ?_
    refine l_iald hx hb E hM (hp_m (hY.c2 c23.2 0 rfl)) (⟨by decide, by decide⟩ : gIn (1 : Int32) 2) (v := (gi ν (20 + x2.toNatClampNeg) 1)) (congrArg (ν.1 (20 + x2.toNatClampNeg)) (by decide : (1 : Int32).toNatClampNeg = 1)) dX8_areHeights_181 ?_
    obtain ⟨c25, h⟩ := gchk_e h
    refine l_lald hx hb E hM (hp_m (hY.c4 c22)) c25 (v := (gl ν 9 (gi ν (20 + x2.toNatClampNeg) 1).toNatClampNeg)) rfl dX8_areHeights_182 ?_
    refine lv_aload_n hx hb dX8_areHeights_183 rfl (lv_at hl 1 rfl) ?_
    obtain ⟨c26, h⟩ := gchk_e h
    refine h_get hx hb hown E hM (hp_m (hY.c1 0 rfl)) gC_X8 10 (by decide) (v := .ref (la 9 0)) (by rw [← lHv_a c26]; rfl) kw_1034 dX8_areHeights_184 ?_
    refine lv_aload_n hx hb dX8_areHeights_187 rfl (lv_at hl 1 rfl) ?_
    refine h_get hx hb hown E hM (hp_m (hY.c1 0 rfl)) gC_X8 5 (by decide) (v := .ref (la 3 0)) rfl kw_1029 dX8_areHeights_188 ?_
    refine lv_iload_n hx hb dX8_areHeights_191 rfl (lv_at hl 2 rfl) ?_
    obtain ⟨c27, h⟩ := gchk_e h
    refine h_rald hx hb E hM (hp_m (hY.c1 3 rfl)) c27 (v := .ref (la 20 x2.toNatClampNeg)) (x_lrf c27) dX8_areHeights_192 ?_
    refine lv_iconst (v := (0 : Int32)) hx hb dX8_areHeights_193 (by decide) ?_
    refine l_iald hx hb E hM (hp_m (hY.c2 c27.2 0 rfl)) (⟨by decide, by decide⟩ : gIn (0 : Int32) 2) (v := (gi ν (20 + x2.toNatClampNeg) 0)) (congrArg (ν.1 (20 + x2.toNatClampNeg)) (by decide : (0 : Int32).toNatClampNeg = 0)) dX8_areHeights_194 ?_
    obtain ⟨c29, h⟩ := gchk_e h
    refine l_lald hx hb E hM (hp_m (hY.c4 c26)) c29 (v := (gl ν 9 (gi ν (20 + x2.toNatClampNeg) 0).toNatClampNeg)) rfl dX8_areHeights_195 ?_
    refine lv_lsub hx hb dX8_areHeights_196 ?_
    refine lv_aload_n hx hb dX8_areHeights_197 rfl (lv_at hl 1 rfl) ?_
    refine lv_iload_n hx hb dX8_areHeights_198 rfl (lv_at hl 2 rfl) ?_
    obtain ⟨q30, hq30, h⟩ := gbind_e h
    refine h_callV (As := [.int x2]) (rest := [.long ((gl ν 9 (gi ν (20 + x2.toNatClampNeg) 1).toNatClampNeg) - (gl ν 9 (gi ν (20 + x2.toNatClampNeg) 0).toNatClampNeg)), .long q19]) hx hb (hml.trans hl.1.symm) hown E hM hS xy_X8_rise kw_1146 (c_L_rise hY hq30) (hp_m (hY.c1 0 rfl)) gC_X8.1 rfl rfl (Nat.le_of_ble_eq_true rfl) ⟨(Nat.le_of_ble_eq_true rfl), (Nat.le_of_ble_eq_true rfl)⟩ ⟨(show _ ≤ 123 by omega), (show _ ≤ 508 by omega)⟩ dX8_areHeights_199 (fun rv H locs hZ hS => ?_)
    obtain ⟨rfl, hM⟩ := hZ
    refine lv_i2l (v := q30.toInt64) hx hb dX8_areHeights_202 rfl ?_
    refine lv_lsub hx hb dX8_areHeights_203 ?_
    refine lv_goto (tgt := 210) hx hb dX8_areHeights_204 (by decide) ?_
    exact wj_L_areHeights_210 h F E hY hPd  (by omega) (by omega) hcm hsm hcr hsr kc kx kr hM hS (lv_sub hl [1, 2] rfl)
def j_L_areHeights_156 (x2 : Int32) (ν μ : gM) : Option ((Int32) ⊕ ((Unit) ⊕ ((Bool) × gM))) :=
  j_L_areHeights_157 x2 (0 : Int32) ν μ
set_option maxHeartbeats 4000000 in
set_option maxRecDepth 100000 in
theorem wj_L_areHeights_156 {p : Program} {l : Launch} {e : Env} {s : State} {m : MethodId} {args : Array Value} {below : List Frame} {meth : Method} {c : Code} {D : va_G} {cy : Nat → ClassId} {ad : Nat → Nat} {b : Nat} {la : Nat → Nat → Nat} {ν : gM} {P P0 : va_W} {x2 : Int32} {μ : gM}  {o : (Int32) ⊕ ((Unit) ⊕ ((Bool) × gM))} {RES : (Bool) × gM} {cells slots C0 S0 CM SM : Nat} (h : j_L_areHeights_156 x2 ν μ = some o) (F : gF p s m meth c cX8_areHeights RX8 4 (some .boolean)) (E : hE l D cy ad b s) (hY : lY cy ad la ν P) (hPd : ∀ (μ : gM) (H : Heap), hW D cy ad b μ P [] H → hW D cy ad b μ P0 [] H) (hc : cells + 1 ≤ C0) (hs : slots + 4 ≤ S0) (hcm : C0 ≤ CM) (hsm : S0 ≤ SM) (hcr : CM ≤ 123) (hsr : SM ≤ 508) (kc : ∀ (t : Int32) {H : Heap} {locs : List Loc} {ls : Array Slot}, o = .inl t → hW D cy ad b μ P [] H → va_S (hA b) s.heap H locs → lv_has ls 4 [(0, .ref (la 0 0)), (2, .int t)] → W p l e ({ frames := 6, cells := 123, slots := 508, locals := 137 } : Room) s m args below meth c H locs C0 S0 (MQ below (hQ b (fun rv H => rv = some (.int (b2i RES.1)) ∧ hW D cy ad b RES.2 P0 [] H)) args s 123 508 (hA b)) (F0 m 88 ls [])) (kx : ∀ (t : Unit) {H : Heap} {locs : List Loc} {ls : Array Slot}, o = .inr (.inl t) → hW D cy ad b μ P [] H → va_S (hA b) s.heap H locs → lv_has ls 4 [(0, .ref (la 0 0))] → W p l e ({ frames := 6, cells := 123, slots := 508, locals := 137 } : Room) s m args below meth c H locs CM SM (MQ below (hQ b (fun rv H => rv = some (.int (b2i RES.1)) ∧ hW D cy ad b RES.2 P0 [] H)) args s 123 508 (hA b)) (F0 m 222 ls [])) (kr : ∀ x : (Bool) × gM, o = .inr (.inr x) → x = RES) {H : Heap} {locs : List Loc} {ls : Array Slot} (hM : hW D cy ad b μ P [] H) (hS : va_S (hA b) s.heap H locs) (hl : lv_has ls 4 [(0, .ref (la 0 0)), (2, .int x2)]) : W p l e ({ frames := 6, cells := 123, slots := 508, locals := 137 } : Room) s m args below meth c H locs cells slots (MQ below (hQ b (fun rv H => rv = some (.int (b2i RES.1)) ∧ hW D cy ad b RES.2 P0 [] H)) args s 123 508 (hA b)) (F0 m 156 ls []) := by
  obtain ⟨hx, hb, hml, hown, hlocks, hr⟩ := id F
  unfold j_L_areHeights_156 at h
  refine lv_iconst (v := (0 : Int32)) hx hb dX8_areHeights_156 (by decide) ?_
  exact wj_L_areHeights_157 h F E hY hPd  (by omega) (by omega) hcm hsm hcr hsr kc kx kr hM hS hl
def b_L_areHeights_88 (x2 : Int32) (ν μ : gM) : Option ((Int32) ⊕ ((Unit) ⊕ ((Bool) × gM))) :=
  if ((gi ν 0 2) ≤ x2) then some (.inr (.inl ())) else if gi ν 0 10 = 0 then j_L_areHeights_156 x2 ν μ else gchk (gIn x2 (lLn ν)) (if ((gi ν 5 x2.toNatClampNeg) = 0) then j_L_areHeights_156 x2 ν μ else gchk (¬ gi ν 0 10 = 0) (gchk (gIn x2 (lLn ν)) (gchk (gIn (gi ν (20 + x2.toNatClampNeg) 0) (lPt ν)) (if ((gl ν 9 (gi ν (20 + x2.toNatClampNeg) 0).toNatClampNeg) = (-9223372036854775808 : Int64)) then j_L_areHeights_156 x2 ν μ else gchk (¬ gi ν 0 10 = 0) (gchk (gIn x2 (lLn ν)) (gchk (gIn (gi ν (20 + x2.toNatClampNeg) 1) (lPt ν)) (if ((gl ν 9 (gi ν (20 + x2.toNatClampNeg) 1).toNatClampNeg) = (-9223372036854775808 : Int64)) then j_L_areHeights_156 x2 ν μ else j_L_areHeights_157 x2 (1 : Int32) ν μ)))))))
set_option maxHeartbeats 4000000 in
set_option maxRecDepth 100000 in
theorem wb_L_areHeights_88 {p : Program} {l : Launch} {e : Env} {s : State} {m : MethodId} {args : Array Value} {below : List Frame} {meth : Method} {c : Code} {D : va_G} {cy : Nat → ClassId} {ad : Nat → Nat} {b : Nat} {la : Nat → Nat → Nat} {ν : gM} {P P0 : va_W} {x2 : Int32} {μ : gM}  {o : (Int32) ⊕ ((Unit) ⊕ ((Bool) × gM))} {RES : (Bool) × gM} {cells slots C0 S0 CM SM : Nat} (h : b_L_areHeights_88 x2 ν μ = some o) (F : gF p s m meth c cX8_areHeights RX8 4 (some .boolean)) (E : hE l D cy ad b s) (hY : lY cy ad la ν P) (hPd : ∀ (μ : gM) (H : Heap), hW D cy ad b μ P [] H → hW D cy ad b μ P0 [] H) (hc : cells + 1 ≤ C0) (hs : slots + 4 ≤ S0) (hcm : C0 ≤ CM) (hsm : S0 ≤ SM) (hcr : CM ≤ 123) (hsr : SM ≤ 508) (kc : ∀ (t : Int32) {H : Heap} {locs : List Loc} {ls : Array Slot}, o = .inl t → hW D cy ad b μ P [] H → va_S (hA b) s.heap H locs → lv_has ls 4 [(0, .ref (la 0 0)), (2, .int t)] → W p l e ({ frames := 6, cells := 123, slots := 508, locals := 137 } : Room) s m args below meth c H locs C0 S0 (MQ below (hQ b (fun rv H => rv = some (.int (b2i RES.1)) ∧ hW D cy ad b RES.2 P0 [] H)) args s 123 508 (hA b)) (F0 m 88 ls [])) (kx : ∀ (t : Unit) {H : Heap} {locs : List Loc} {ls : Array Slot}, o = .inr (.inl t) → hW D cy ad b μ P [] H → va_S (hA b) s.heap H locs → lv_has ls 4 [(0, .ref (la 0 0))] → W p l e ({ frames := 6, cells := 123, slots := 508, locals := 137 } : Room) s m args below meth c H locs CM SM (MQ below (hQ b (fun rv H => rv = some (.int (b2i RES.1)) ∧ hW D cy ad b RES.2 P0 [] H)) args s 123 508 (hA b)) (F0 m 222 ls [])) (kr : ∀ x : (Bool) × gM, o = .inr (.inr x) → x = RES) {H : Heap} {locs : List Loc} {ls : Array Slot} (hM : hW D cy ad b μ P [] H) (hS : va_S (hA b) s.heap H locs) (hl : lv_has ls 4 [(0, .ref (la 0 0)), (2, .int x2)]) : W p l e ({ frames := 6, cells := 123, slots := 508, locals := 137 } : Room) s m args below meth c H locs cells slots (MQ below (hQ b (fun rv H => rv = some (.int (b2i RES.1)) ∧ hW D cy ad b RES.2 P0 [] H)) args s 123 508 (hA b)) (F0 m 88 ls []) := by
  obtain ⟨hx, hb, hml, hown, hlocks, hr⟩ := id F
  unfold b_L_areHeights_88 at h
  refine lv_iload_n hx hb dX8_areHeights_88 rfl (lv_at hl 1 rfl) ?_
  refine lv_aload_n hx hb dX8_areHeights_89 rfl (lv_at hl 0 rfl) ?_
  refine h_get hx hb hown E hM (hp_m (hY.c1 0 rfl)) gC_X8 2 (by decide) (v := .int (gi ν 0 2)) rfl kw_1026 dX8_areHeights_90 ?_
  refine lv_icmp_ge (tgt := 222) hx hb dX8_areHeights_93 (by decide) (fun c17 => ?_) (fun c17 => ?_)
  · replace h := gif_t c17 h
    refine W.widen (k := CM) (n := SM) (by omega) (by omega) ?_
    exact kx _ (Option.some.inj h).symm hM hS (lv_sub hl [0] rfl)
  · replace h := gif_f c17 h
    refine lv_aload_n hx hb dX8_areHeights_96 rfl (lv_at hl 0 rfl) ?_
    refine h_get hx hb hown E hM (hp_m (hY.c1 0 rfl)) gC_X8 10 (by decide) (v := lHv la ν) rfl kw_1034 dX8_areHeights_97 ?_
    by_cases c18 : gi ν 0 10 = 0
    · replace h := gif_t c18 h
      rw [lHv_n c18]
      refine lv_ifnullN (tgt := 156) hx hb dX8_areHeights_100 (by decide) ?_
      exact wj_L_areHeights_156 h F E hY hPd  (by omega) (by omega) hcm hsm hcr hsr kc kx kr hM hS hl
    · replace h := gif_f c18 h
      rw [lHv_a c18]
      refine lv_ifnull hx hb dX8_areHeights_100 ?_
      refine lv_aload_n hx hb dX8_areHeights_103 rfl (lv_at hl 0 rfl) ?_
      refine h_get hx hb hown E hM (hp_m (hY.c1 0 rfl)) gC_X8 7 (by decide) (v := .ref (la 5 0)) rfl kw_1031 dX8_areHeights_104 ?_
      refine lv_iload_n hx hb dX8_areHeights_107 rfl (lv_at hl 1 rfl) ?_
      obtain ⟨c31, h⟩ := gchk_e h
      refine l_zald hx hb E hM (hp_m (hY.c1 5 rfl)) c31 (v := (gi ν 5 x2.toNatClampNeg)) rfl dX8_areHeights_108 ?_
      refine lv_if_eq (tgt := 156) hx hb dX8_areHeights_109 (by decide) (fun c32 => ?_) (fun c32 => ?_)
      · replace h := gif_t c32 h
        exact wj_L_areHeights_156 h F E hY hPd  (by omega) (by omega) hcm hsm hcr hsr kc kx kr hM hS hl
      · replace h := gif_f c32 h
        refine lv_aload_n hx hb dX8_areHeights_112 rfl (lv_at hl 0 rfl) ?_
        obtain ⟨c33, h⟩ := gchk_e h
        refine h_get hx hb hown E hM (hp_m (hY.c1 0 rfl)) gC_X8 10 (by decide) (v := .ref (la 9 0)) (by rw [← lHv_a c33]; rfl) kw_1034 dX8_areHeights_113 ?_
        refine lv_aload_n hx hb dX8_areHeights_116 rfl (lv_at hl 0 rfl) ?_
        refine h_get hx hb hown E hM (hp_m (hY.c1 0 rfl)) gC_X8 5 (by decide) (v := .ref (la 3 0)) rfl kw_1029 dX8_areHeights_117 ?_
        refine lv_iload_n hx hb dX8_areHeights_120 rfl (lv_at hl 1 rfl) ?_
        obtain ⟨c34, h⟩ := gchk_e h
        refine h_rald hx hb E hM (hp_m (hY.c1 3 rfl)) c34 (v := .ref (la 20 x2.toNatClampNeg)) (x_lrf c34) dX8_areHeights_121 ?_
        refine lv_iconst (v := (0 : Int32)) hx hb dX8_areHeights_122 (by decide) ?_
        refine l_iald hx hb E hM (hp_m (hY.c2 c34.2 0 rfl)) (⟨by decide, by decide⟩ : gIn (0 : Int32) 2) (v := (gi ν (20 + x2.toNatClampNeg) 0)) (congrArg (ν.1 (20 + x2.toNatClampNeg)) (by decide : (0 : Int32).toNatClampNeg = 0)) dX8_areHeights_123 ?_
        obtain ⟨c36, h⟩ := gchk_e h
        refine l_lald hx hb E hM (hp_m (hY.c4 c33)) c36 (v := (gl ν 9 (gi ν (20 + x2.toNatClampNeg) 0).toNatClampNeg)) rfl dX8_areHeights_124 ?_
        refine lv_ldc2 hx hb hown (v := (-9223372036854775808 : Int64)) (E.kw kw_1406) dX8_areHeights_125 ?_
        refine W.lcmp hx hb dX8_areHeights_128 ?_
        refine lv_if_eq (tgt := 156) hx hb dX8_areHeights_129 (by decide) (fun c37 => ?_) (fun c37 => ?_)
        · replace c37 := (lg_cmp_eq _ _).mp c37
          replace h := gif_t c37 h
          exact wj_L_areHeights_156 h F E hY hPd  (by omega) (by omega) hcm hsm hcr hsr kc kx kr hM hS hl
        · replace c37 := fun w => c37 ((lg_cmp_eq _ _).mpr w)
          replace h := gif_f c37 h
          refine lv_aload_n hx hb dX8_areHeights_132 rfl (lv_at hl 0 rfl) ?_
          obtain ⟨c38, h⟩ := gchk_e h
          refine h_get hx hb hown E hM (hp_m (hY.c1 0 rfl)) gC_X8 10 (by decide) (v := .ref (la 9 0)) (by rw [← lHv_a c38]; rfl) kw_1034 dX8_areHeights_133 ?_
          refine lv_aload_n hx hb dX8_areHeights_136 rfl (lv_at hl 0 rfl) ?_
          refine h_get hx hb hown E hM (hp_m (hY.c1 0 rfl)) gC_X8 5 (by decide) (v := .ref (la 3 0)) rfl kw_1029 dX8_areHeights_137 ?_
          refine lv_iload_n hx hb dX8_areHeights_140 rfl (lv_at hl 1 rfl) ?_
          obtain ⟨c39, h⟩ := gchk_e h
          refine h_rald hx hb E hM (hp_m (hY.c1 3 rfl)) c39 (v := .ref (la 20 x2.toNatClampNeg)) (x_lrf c39) dX8_areHeights_141 ?_
          refine lv_iconst (v := (1 : Int32)) hx hb dX8_areHeights_142 (by decide) ?_
          refine l_iald hx hb E hM (hp_m (hY.c2 c39.2 0 rfl)) (⟨by decide, by decide⟩ : gIn (1 : Int32) 2) (v := (gi ν (20 + x2.toNatClampNeg) 1)) (congrArg (ν.1 (20 + x2.toNatClampNeg)) (by decide : (1 : Int32).toNatClampNeg = 1)) dX8_areHeights_143 ?_
          obtain ⟨c41, h⟩ := gchk_e h
          refine l_lald hx hb E hM (hp_m (hY.c4 c38)) c41 (v := (gl ν 9 (gi ν (20 + x2.toNatClampNeg) 1).toNatClampNeg)) rfl dX8_areHeights_144 ?_
          refine lv_ldc2 hx hb hown (v := (-9223372036854775808 : Int64)) (E.kw kw_1406) dX8_areHeights_145 ?_
          refine W.lcmp hx hb dX8_areHeights_148 ?_
          refine lv_if_eq (tgt := 156) hx hb dX8_areHeights_149 (by decide) (fun c42 => ?_) (fun c42 => ?_)
          · replace c42 := (lg_cmp_eq _ _).mp c42
            replace h := gif_t c42 h
            exact wj_L_areHeights_156 h F E hY hPd  (by omega) (by omega) hcm hsm hcr hsr kc kx kr hM hS hl
          · replace c42 := fun w => c42 ((lg_cmp_eq _ _).mpr w)
            replace h := gif_f c42 h
            refine lv_iconst (v := (1 : Int32)) hx hb dX8_areHeights_152 (by decide) ?_
            refine lv_goto (tgt := 157) hx hb dX8_areHeights_153 (by decide) ?_
            exact wj_L_areHeights_157 h F E hY hPd  (by omega) (by omega) hcm hsm hcr hsr kc kx kr hM hS hl
set_option maxHeartbeats 4000000 in
theorem wl_L_areHeights_88 {p : Program} {l : Launch} {e : Env} {s : State} {m : MethodId} {args : Array Value} {below : List Frame} {meth : Method} {c : Code} {D : va_G} {cy : Nat → ClassId} {ad : Nat → Nat} {b : Nat} {la : Nat → Nat → Nat} {ν : gM} {P P0 : va_W}   {μ : gM}  {r : (Unit) ⊕ ((Bool) × gM)} {RES : (Bool) × gM} {CM SM : Nat} (F : gF p s m meth c cX8_areHeights RX8 4 (some .boolean)) (E : hE l D cy ad b s) (hY : lY cy ad la ν P) (hPd : ∀ (μ : gM) (H : Heap), hW D cy ad b μ P [] H → hW D cy ad b μ P0 [] H) (hcr : CM ≤ 123) (hsr : SM ≤ 508) (kx : ∀ (t : Unit) {H : Heap} {locs : List Loc} {ls : Array Slot}, r = .inl t → hW D cy ad b μ P [] H → va_S (hA b) s.heap H locs → lv_has ls 4 [(0, .ref (la 0 0))] → W p l e ({ frames := 6, cells := 123, slots := 508, locals := 137 } : Room) s m args below meth c H locs CM SM (MQ below (hQ b (fun rv H => rv = some (.int (b2i RES.1)) ∧ hW D cy ad b RES.2 P0 [] H)) args s 123 508 (hA b)) (F0 m 222 ls [])) (kr : ∀ x : (Bool) × gM, r = .inr x → x = RES) : ∀ (n : Nat) (x2 : Int32)  {cells slots : Nat}, cells + n * 1 ≤ CM → slots + n * 4 ≤ SM → gloop (fun t => b_L_areHeights_88  t ν μ) n x2 = some r → ∀ {H : Heap} {locs : List Loc} {ls : Array Slot}, hW D cy ad b μ P [] H → va_S (hA b) s.heap H locs → lv_has ls 4 [(0, .ref (la 0 0)), (2, .int x2)] → W p l e ({ frames := 6, cells := 123, slots := 508, locals := 137 } : Room) s m args below meth c H locs cells slots (MQ below (hQ b (fun rv H => rv = some (.int (b2i RES.1)) ∧ hW D cy ad b RES.2 P0 [] H)) args s 123 508 (hA b)) (F0 m 88 ls []) := by
  intro n
  induction n with
  | zero =>
    intro x2 cells slots hc hs h
    exact (gloop_0 h).elim
  | succ n ih =>
    intro x2 cells slots hc hs h H locs ls hM hS hl
    obtain ⟨o, h0, hcc, hq⟩ := gloop_s h
    have h1 : b_L_areHeights_88 x2 ν μ = some o := h0
    exact wb_L_areHeights_88 (C0 := cells + 1) (S0 := slots + 4) (CM := CM) (SM := SM) h1 F E hY hPd  (by omega) (by omega) (by omega) (by omega) hcr hsr (fun t H locs ls ho hM hS hl => ih t (by omega) (by omega) (hcc t ho) hM hS hl) (fun t H locs ls ho hM hS hl => kx t (hq _ ho).symm hM hS hl) (fun x ho => kr x (hq _ ho).symm) hM hS hl
def j_L_areHeights_241 (y0 : Int32) (y1 : Int32) (ν μ : gM) : Option ((Bool) × gM) :=
  if (y0 = y1) then some (true, μ) else some (false, μ)
set_option maxHeartbeats 4000000 in
set_option maxRecDepth 100000 in
theorem wj_L_areHeights_241 {p : Program} {l : Launch} {e : Env} {s : State} {m : MethodId} {args : Array Value} {below : List Frame} {meth : Method} {c : Code} {D : va_G} {cy : Nat → ClassId} {ad : Nat → Nat} {b : Nat} {la : Nat → Nat → Nat} {ν : gM} {P P0 : va_W} {y0 : Int32} {y1 : Int32} {μ : gM}  {o : (Bool) × gM}  {cells slots : Nat} (h : j_L_areHeights_241 y0 y1 ν μ = some o) (F : gF p s m meth c cX8_areHeights RX8 4 (some .boolean)) (E : hE l D cy ad b s) (hY : lY cy ad la ν P) (hPd : ∀ (μ : gM) (H : Heap), hW D cy ad b μ P [] H → hW D cy ad b μ P0 [] H) (hc : cells + 0 ≤ 123) (hs : slots + 0 ≤ 508) {H : Heap} {locs : List Loc} {ls : Array Slot} (hM : hW D cy ad b μ P [] H) (hS : va_S (hA b) s.heap H locs) (hl : lv_has ls 4 []) : W p l e ({ frames := 6, cells := 123, slots := 508, locals := 137 } : Room) s m args below meth c H locs cells slots (MQ below (hQ b (fun rv H => rv = some (.int (b2i o.1)) ∧ hW D cy ad b o.2 P0 [] H)) args s 123 508 (hA b)) (F0 m 241 ls [.int y1, .int y0]) := by
  obtain ⟨hx, hb, hml, hown, hlocks, hr⟩ := id F
  unfold j_L_areHeights_241 at h
  refine lv_icmp_ne (tgt := 248) hx hb dX8_areHeights_241 (by decide) (fun c47 => ?_) (fun c47 => ?_)
  · replace h := gif_f c47 h
    refine lv_iconst (v := (0 : Int32)) hx hb dX8_areHeights_248 (by decide) ?_
    obtain rfl := Option.some.inj h
    exact h_zret (v := b2i false) hx hb hr hlocks (by omega) (by omega) (b2i_nar false) ⟨rfl, hPd _ _ (hW.drop hM)⟩ hS dX8_areHeights_249
  · replace h := gif_t c47 h
    refine lv_iconst (v := (1 : Int32)) hx hb dX8_areHeights_244 (by decide) ?_
    refine lv_goto (tgt := 249) hx hb dX8_areHeights_245 (by decide) ?_
    obtain rfl := Option.some.inj h
    exact h_zret (v := b2i true) hx hb hr hlocks (by omega) (by omega) (b2i_nar true) ⟨rfl, hPd _ _ (hW.drop hM)⟩ hS dX8_areHeights_249
def f_L_areHeights  (ν μ : gM) : Option ((Bool) × gM) :=
  Option.bind (f_L_provisional  ν μ) (fun q1 => Option.bind (gloop (fun t => b_L_areHeights_7  t.1 t.2.1 ν t.2.2) 9 ((0 : Int32), q1, μ)) (fun q15 => Sum.elim (fun t16 => Option.bind (gloop (fun t => b_L_areHeights_88  t ν t16) 12 (0 : Int32)) (fun q43 => Sum.elim (fun t44 => Option.bind (f_X7_isAdjusted  t16) (fun q45 => if gi ν 0 10 = 0 then j_L_areHeights_241 (b2i q45) (0 : Int32) ν t16 else j_L_areHeights_241 (b2i q45) (1 : Int32) ν t16)) (fun x => some x) q43)) (fun x => some x) q15))
set_option maxHeartbeats 4000000 in
set_option maxRecDepth 100000 in
theorem c_L_areHeights {l : Launch} {D : va_G} {cy : Nat → ClassId} {ad : Nat → Nat} {b : Nat} {la : Nat → Nat → Nat} {μ ν : gM} {P : va_W}  {RES : (Bool) × gM} (hY : lY cy ad la ν P) (h : f_L_areHeights  ν μ = some RES) : Met l yX8_areHeights [.code yX8_areHeights cX8_areHeights 4 (some .boolean)] ({ frames := 6, cells := 123, slots := 508, locals := 137 } : Room) (va_Pc [.ref (la 0 0)] (hB l D cy ad b μ P [])) (hQ b (fun rv H => rv = some (.int (b2i RES.1)) ∧ hW D cy ad b RES.2 P [] H)) 123 508 (hA b) := by
  refine Met.ofW (cc := cX8_areHeights) (maxL := 4) (ret := (some .boolean)) (by decide +kernel) rfl ?_
  intro p e s m args below meth c s₁ B hml0 hv
  obtain ⟨rfl, E, hM⟩ := hv
  have F : gF p s m meth c cX8_areHeights RX8 4 (some .boolean) := gF_of B hml0
  obtain ⟨hx, hb, hml, hown, hlocks, hr⟩ := id F
  have hS : va_S (hA b) s.heap s.heap [] := va_S.rf
  have hl := lv_entry ([.ref (la 0 0)]) (n := 4) (Nat.le_of_ble_eq_true rfl)
  rw [lg_entry_eq]
  generalize (lg_sl ([.ref (la 0 0)]) ++ List.replicate (4 - (lg_sl ([.ref (la 0 0)])).length) Slot.unset).toArray = ls at hl ⊢
  have hl : lv_has ls 4 [(0, .ref (la 0 0))] := hl
  unfold f_L_areHeights at h
  refine lv_aload_n hx hb dX8_areHeights_0 rfl (lv_at hl 0 rfl) ?_
  obtain ⟨q1, hq1, h⟩ := gbind_e h
  refine h_callV (As := []) (rest := []) hx hb (hml.trans hl.1.symm) hown E hM hS xy_X8_provisional kw_1385 (c_L_provisional hY hq1) (hp_m (hY.c1 0 rfl)) gC_X8.1 rfl rfl (Nat.le_of_ble_eq_true rfl) ⟨(Nat.le_of_ble_eq_true rfl), (Nat.le_of_ble_eq_true rfl)⟩ ⟨(show _ ≤ 123 by omega), (show _ ≤ 508 by omega)⟩ dX8_areHeights_1 (fun rv H locs hZ hS => ?_)
  obtain ⟨a2, rfl, hM⟩ := hZ
  refine lv_astore_n (lv' := [(1, .ref a2), (0, .ref (la 0 0))]) hx hb dX8_areHeights_4 rfl hl (by decide) rfl (fun ls hl => ?_)
  refine lv_iconst (v := (0 : Int32)) hx hb dX8_areHeights_5 (by decide) ?_
  refine lv_istore_n (lv' := [(2, .int (0 : Int32)), (1, .ref a2), (0, .ref (la 0 0))]) hx hb dX8_areHeights_6 rfl hl (by decide) rfl (fun ls hl => ?_)
  obtain ⟨q15, h1, h⟩ := gbind_e h
  refine wl_L_areHeights_7 (CM := 111) (SM := 460) F E hY (fun _ _ h => h)  (by omega) (by omega) (r := q15) (fun t16 H locs ls e1 hM hS hl => ?_) (fun x ex => ?_) 9 (0 : Int32) q1 μ (by omega) (by omega) h1 hM hS (lv_sub hl [2, 1, 0] rfl)
  · replace h := gsum_l e1 h
    refine lv_iconst (v := (0 : Int32)) hx hb dX8_areHeights_86 (by decide) ?_
    refine lv_istore_n (lv' := [(2, .int (0 : Int32)), (0, .ref (la 0 0))]) hx hb dX8_areHeights_87 rfl hl (by decide) rfl (fun ls hl => ?_)
    obtain ⟨q43, h1, h⟩ := gbind_e h
    refine wl_L_areHeights_88 (CM := 123) (SM := 508) F E hY (fun _ _ h => h)  (by omega) (by omega) (r := q43) (fun t44 H locs ls e1 hM hS hl => ?_) (fun x ex => ?_) 12 (0 : Int32) (by omega) (by omega) h1 hM hS (lv_sub hl [1, 0] rfl)
    · replace h := gsum_l e1 h
      refine lv_aload_n hx hb dX8_areHeights_222 rfl (lv_at hl 0 rfl) ?_
      refine h_get hx hb hown E hM (hp_m (hY.c1 0 rfl)) gC_X8 0 (by decide) (v := .ref (ad 0)) rfl kw_1023 dX8_areHeights_223 ?_
      obtain ⟨q45, hq45, h⟩ := gbind_e h
      refine h_callC (As := []) (rest := []) hx hb (hml.trans hl.1.symm) hown E hM hS hy_X7_isAdjusted kw_1491 (c_X7_isAdjusted hq45) hk_0 dd_0 rfl rfl rfl (Nat.le_of_ble_eq_true rfl) ⟨(Nat.le_of_ble_eq_true rfl), (Nat.le_of_ble_eq_true rfl)⟩ ⟨(show _ ≤ 123 by omega), (show _ ≤ 508 by omega)⟩ dX8_areHeights_226 (fun H locs hM hS => ?_)
      refine lv_aload_n hx hb dX8_areHeights_229 rfl (lv_at hl 0 rfl) ?_
      refine h_get hx hb hown E hM (hp_m (hY.c1 0 rfl)) gC_X8 10 (by decide) (v := lHv la ν) rfl kw_1034 dX8_areHeights_230 ?_
      by_cases c46 : gi ν 0 10 = 0
      · replace h := gif_t c46 h
        rw [lHv_n c46]
        refine lv_ifnullN (tgt := 240) hx hb dX8_areHeights_233 (by decide) ?_
        refine lv_iconst (v := (0 : Int32)) hx hb dX8_areHeights_240 (by decide) ?_
        exact wj_L_areHeights_241 h F E hY (fun _ _ h => h)  (by omega) (by omega) hM hS (lv_sub hl [] rfl)
      · replace h := gif_f c46 h
        rw [lHv_a c46]
        refine lv_ifnull hx hb dX8_areHeights_233 ?_
        refine lv_iconst (v := (1 : Int32)) hx hb dX8_areHeights_236 (by decide) ?_
        refine lv_goto (tgt := 241) hx hb dX8_areHeights_237 (by decide) ?_
        exact wj_L_areHeights_241 h F E hY (fun _ _ h => h)  (by omega) (by omega) hM hS (lv_sub hl [] rfl)
    · exact Option.some.inj (gsum_r ex h)
  · exact Option.some.inj (gsum_r ex h)

theorem xy_X8_length : gYV yX8_length cX8_length 5 (some .int) 1 := ⟨kw_1210, kw_50, kw_1209, kw_29, ⟨by decide +kernel, by decide +kernel⟩, by decide +kernel⟩
theorem dX8_distances_0 : decode cX8_distances 0 = .ok (.aload_n 0, 1) := by decide +kernel
theorem dX8_distances_1 : decode cX8_distances 1 = .ok (.getfield 43, 3) := by decide +kernel
theorem dX8_distances_4 : decode cX8_distances 4 = .ok (.aload_n 0, 1) := by decide +kernel
theorem dX8_distances_5 : decode cX8_distances 5 = .ok (.getfield 43, 3) := by decide +kernel
theorem dX8_distances_8 : decode cX8_distances 8 = .ok (.multianewarray 50 2, 4) := by decide +kernel
theorem dX8_distances_12 : decode cX8_distances 12 = .ok (.astore_n 2, 1) := by decide +kernel
theorem dX8_distances_13 : decode cX8_distances 13 = .ok (.iconst 0, 1) := by decide +kernel
theorem dX8_distances_14 : decode cX8_distances 14 = .ok (.istore_n 3, 1) := by decide +kernel
theorem dX8_distances_15 : decode cX8_distances 15 = .ok (.iload_n 3, 1) := by decide +kernel
theorem dX8_distances_16 : decode cX8_distances 16 = .ok (.aload_n 0, 1) := by decide +kernel
theorem dX8_distances_17 : decode cX8_distances 17 = .ok (.getfield 43, 3) := by decide +kernel
theorem dX8_distances_20 : decode cX8_distances 20 = .ok (.if_icmp .ge 45, 3) := by decide +kernel
theorem dX8_distances_23 : decode cX8_distances 23 = .ok (.iconst 0, 1) := by decide +kernel
theorem dX8_distances_24 : decode cX8_distances 24 = .ok (.istore 4, 2) := by decide +kernel
theorem dX8_distances_26 : decode cX8_distances 26 = .ok (.iload 4, 2) := by decide +kernel
theorem dX8_distances_28 : decode cX8_distances 28 = .ok (.aload_n 0, 1) := by decide +kernel
theorem dX8_distances_29 : decode cX8_distances 29 = .ok (.getfield 43, 3) := by decide +kernel
theorem dX8_distances_32 : decode cX8_distances 32 = .ok (.if_icmp .ge 27, 3) := by decide +kernel
theorem dX8_distances_35 : decode cX8_distances 35 = .ok (.aload_n 2, 1) := by decide +kernel
theorem dX8_distances_36 : decode cX8_distances 36 = .ok (.iload_n 3, 1) := by decide +kernel
theorem dX8_distances_37 : decode cX8_distances 37 = .ok (.aaload, 1) := by decide +kernel
theorem dX8_distances_38 : decode cX8_distances 38 = .ok (.iload 4, 2) := by decide +kernel
theorem dX8_distances_40 : decode cX8_distances 40 = .ok (.iload_n 3, 1) := by decide +kernel
theorem dX8_distances_41 : decode cX8_distances 41 = .ok (.iload 4, 2) := by decide +kernel
theorem dX8_distances_43 : decode cX8_distances 43 = .ok (.if_icmp .ne 7, 3) := by decide +kernel
theorem dX8_distances_46 : decode cX8_distances 46 = .ok (.iconst 0, 1) := by decide +kernel
theorem dX8_distances_47 : decode cX8_distances 47 = .ok (.goto 5, 3) := by decide +kernel
theorem dX8_distances_50 : decode cX8_distances 50 = .ok (.ldc 156, 2) := by decide +kernel
theorem dX8_distances_52 : decode cX8_distances 52 = .ok (.iastore, 1) := by decide +kernel
theorem dX8_distances_53 : decode cX8_distances 53 = .ok (.iinc 4 1, 3) := by decide +kernel
theorem dX8_distances_56 : decode cX8_distances 56 = .ok (.goto (-30), 3) := by decide +kernel
theorem dX8_distances_59 : decode cX8_distances 59 = .ok (.iinc 3 1, 3) := by decide +kernel
theorem dX8_distances_62 : decode cX8_distances 62 = .ok (.goto (-47), 3) := by decide +kernel
theorem dX8_distances_65 : decode cX8_distances 65 = .ok (.iconst 0, 1) := by decide +kernel
theorem dX8_distances_66 : decode cX8_distances 66 = .ok (.istore_n 3, 1) := by decide +kernel
theorem dX8_distances_67 : decode cX8_distances 67 = .ok (.iload_n 3, 1) := by decide +kernel
theorem dX8_distances_68 : decode cX8_distances 68 = .ok (.aload_n 0, 1) := by decide +kernel
theorem dX8_distances_69 : decode cX8_distances 69 = .ok (.getfield 47, 3) := by decide +kernel
theorem dX8_distances_72 : decode cX8_distances 72 = .ok (.if_icmp .ge 76, 3) := by decide +kernel
theorem dX8_distances_75 : decode cX8_distances 75 = .ok (.aload_n 0, 1) := by decide +kernel
theorem dX8_distances_76 : decode cX8_distances 76 = .ok (.getfield 58, 3) := by decide +kernel
theorem dX8_distances_79 : decode cX8_distances 79 = .ok (.iload_n 3, 1) := by decide +kernel
theorem dX8_distances_80 : decode cX8_distances 80 = .ok (.baload, 1) := by decide +kernel
theorem dX8_distances_81 : decode cX8_distances 81 = .ok (.ifCond .eq 61, 3) := by decide +kernel
theorem dX8_distances_84 : decode cX8_distances 84 = .ok (.iload_n 3, 1) := by decide +kernel
theorem dX8_distances_85 : decode cX8_distances 85 = .ok (.iload_n 1, 1) := by decide +kernel
theorem dX8_distances_86 : decode cX8_distances 86 = .ok (.if_icmp .ne 6, 3) := by decide +kernel
theorem dX8_distances_89 : decode cX8_distances 89 = .ok (.goto 53, 3) := by decide +kernel
theorem dX8_distances_92 : decode cX8_distances 92 = .ok (.aload_n 0, 1) := by decide +kernel
theorem dX8_distances_93 : decode cX8_distances 93 = .ok (.getfield 52, 3) := by decide +kernel
theorem dX8_distances_96 : decode cX8_distances 96 = .ok (.iload_n 3, 1) := by decide +kernel
theorem dX8_distances_97 : decode cX8_distances 97 = .ok (.aaload, 1) := by decide +kernel
theorem dX8_distances_98 : decode cX8_distances 98 = .ok (.iconst 0, 1) := by decide +kernel
theorem dX8_distances_99 : decode cX8_distances 99 = .ok (.iaload, 1) := by decide +kernel
theorem dX8_distances_100 : decode cX8_distances 100 = .ok (.istore 4, 2) := by decide +kernel
theorem dX8_distances_102 : decode cX8_distances 102 = .ok (.aload_n 0, 1) := by decide +kernel
theorem dX8_distances_103 : decode cX8_distances 103 = .ok (.getfield 52, 3) := by decide +kernel
theorem dX8_distances_106 : decode cX8_distances 106 = .ok (.iload_n 3, 1) := by decide +kernel
theorem dX8_distances_107 : decode cX8_distances 107 = .ok (.aaload, 1) := by decide +kernel
theorem dX8_distances_108 : decode cX8_distances 108 = .ok (.iconst 1, 1) := by decide +kernel
theorem dX8_distances_109 : decode cX8_distances 109 = .ok (.iaload, 1) := by decide +kernel
theorem dX8_distances_110 : decode cX8_distances 110 = .ok (.istore 5, 2) := by decide +kernel
theorem dX8_distances_112 : decode cX8_distances 112 = .ok (.aload_n 2, 1) := by decide +kernel
theorem dX8_distances_113 : decode cX8_distances 113 = .ok (.iload 4, 2) := by decide +kernel
theorem dX8_distances_115 : decode cX8_distances 115 = .ok (.aaload, 1) := by decide +kernel
theorem dX8_distances_116 : decode cX8_distances 116 = .ok (.iload 5, 2) := by decide +kernel
theorem dX8_distances_118 : decode cX8_distances 118 = .ok (.aload_n 2, 1) := by decide +kernel
theorem dX8_distances_119 : decode cX8_distances 119 = .ok (.iload 5, 2) := by decide +kernel
theorem dX8_distances_121 : decode cX8_distances 121 = .ok (.aaload, 1) := by decide +kernel
theorem dX8_distances_122 : decode cX8_distances 122 = .ok (.iload 4, 2) := by decide +kernel
theorem dX8_distances_124 : decode cX8_distances 124 = .ok (.aload_n 2, 1) := by decide +kernel
theorem dX8_distances_125 : decode cX8_distances 125 = .ok (.iload 4, 2) := by decide +kernel
theorem dX8_distances_127 : decode cX8_distances 127 = .ok (.aaload, 1) := by decide +kernel
theorem dX8_distances_128 : decode cX8_distances 128 = .ok (.iload 5, 2) := by decide +kernel
theorem dX8_distances_130 : decode cX8_distances 130 = .ok (.iaload, 1) := by decide +kernel
theorem dX8_distances_131 : decode cX8_distances 131 = .ok (.aload_n 0, 1) := by decide +kernel
theorem dX8_distances_132 : decode cX8_distances 132 = .ok (.iload_n 3, 1) := by decide +kernel
theorem dX8_distances_133 : decode cX8_distances 133 = .ok (.invokevirtual 157, 3) := by decide +kernel
theorem dX8_distances_136 : decode cX8_distances 136 = .ok (.invokestatic 159, 3) := by decide +kernel
theorem dX8_distances_139 : decode cX8_distances 139 = .ok (.dup_x2, 1) := by decide +kernel
theorem dX8_distances_140 : decode cX8_distances 140 = .ok (.iastore, 1) := by decide +kernel
theorem dX8_distances_141 : decode cX8_distances 141 = .ok (.iastore, 1) := by decide +kernel
theorem dX8_distances_142 : decode cX8_distances 142 = .ok (.iinc 3 1, 3) := by decide +kernel
theorem dX8_distances_145 : decode cX8_distances 145 = .ok (.goto (-78), 3) := by decide +kernel
theorem dX8_distances_148 : decode cX8_distances 148 = .ok (.iconst 0, 1) := by decide +kernel
theorem dX8_distances_149 : decode cX8_distances 149 = .ok (.istore_n 3, 1) := by decide +kernel
theorem dX8_distances_150 : decode cX8_distances 150 = .ok (.iload_n 3, 1) := by decide +kernel
theorem dX8_distances_151 : decode cX8_distances 151 = .ok (.aload_n 0, 1) := by decide +kernel
theorem dX8_distances_152 : decode cX8_distances 152 = .ok (.getfield 43, 3) := by decide +kernel
theorem dX8_distances_155 : decode cX8_distances 155 = .ok (.if_icmp .ge 75, 3) := by decide +kernel
theorem dX8_distances_158 : decode cX8_distances 158 = .ok (.iconst 0, 1) := by decide +kernel
theorem dX8_distances_159 : decode cX8_distances 159 = .ok (.istore 4, 2) := by decide +kernel
theorem dX8_distances_161 : decode cX8_distances 161 = .ok (.iload 4, 2) := by decide +kernel
theorem dX8_distances_163 : decode cX8_distances 163 = .ok (.aload_n 0, 1) := by decide +kernel
theorem dX8_distances_164 : decode cX8_distances 164 = .ok (.getfield 43, 3) := by decide +kernel
theorem dX8_distances_167 : decode cX8_distances 167 = .ok (.if_icmp .ge 57, 3) := by decide +kernel
theorem dX8_distances_170 : decode cX8_distances 170 = .ok (.iconst 0, 1) := by decide +kernel
theorem dX8_distances_171 : decode cX8_distances 171 = .ok (.istore 5, 2) := by decide +kernel
theorem dX8_distances_173 : decode cX8_distances 173 = .ok (.iload 5, 2) := by decide +kernel
theorem dX8_distances_175 : decode cX8_distances 175 = .ok (.aload_n 0, 1) := by decide +kernel
theorem dX8_distances_176 : decode cX8_distances 176 = .ok (.getfield 43, 3) := by decide +kernel
theorem dX8_distances_179 : decode cX8_distances 179 = .ok (.if_icmp .ge 39, 3) := by decide +kernel
theorem dX8_distances_182 : decode cX8_distances 182 = .ok (.aload_n 2, 1) := by decide +kernel
theorem dX8_distances_183 : decode cX8_distances 183 = .ok (.iload 4, 2) := by decide +kernel
theorem dX8_distances_185 : decode cX8_distances 185 = .ok (.aaload, 1) := by decide +kernel
theorem dX8_distances_186 : decode cX8_distances 186 = .ok (.iload 5, 2) := by decide +kernel
theorem dX8_distances_188 : decode cX8_distances 188 = .ok (.aload_n 2, 1) := by decide +kernel
theorem dX8_distances_189 : decode cX8_distances 189 = .ok (.iload 4, 2) := by decide +kernel
theorem dX8_distances_191 : decode cX8_distances 191 = .ok (.aaload, 1) := by decide +kernel
theorem dX8_distances_192 : decode cX8_distances 192 = .ok (.iload 5, 2) := by decide +kernel
theorem dX8_distances_194 : decode cX8_distances 194 = .ok (.iaload, 1) := by decide +kernel
theorem dX8_distances_195 : decode cX8_distances 195 = .ok (.aload_n 2, 1) := by decide +kernel
theorem dX8_distances_196 : decode cX8_distances 196 = .ok (.iload 4, 2) := by decide +kernel
theorem dX8_distances_198 : decode cX8_distances 198 = .ok (.aaload, 1) := by decide +kernel
theorem dX8_distances_199 : decode cX8_distances 199 = .ok (.iload_n 3, 1) := by decide +kernel
theorem dX8_distances_200 : decode cX8_distances 200 = .ok (.iaload, 1) := by decide +kernel
theorem dX8_distances_201 : decode cX8_distances 201 = .ok (.aload_n 2, 1) := by decide +kernel
theorem dX8_distances_202 : decode cX8_distances 202 = .ok (.iload_n 3, 1) := by decide +kernel
theorem dX8_distances_203 : decode cX8_distances 203 = .ok (.aaload, 1) := by decide +kernel
theorem dX8_distances_204 : decode cX8_distances 204 = .ok (.iload 5, 2) := by decide +kernel
theorem dX8_distances_206 : decode cX8_distances 206 = .ok (.iaload, 1) := by decide +kernel
theorem dX8_distances_207 : decode cX8_distances 207 = .ok (.iadd, 1) := by decide +kernel
theorem dX8_distances_208 : decode cX8_distances 208 = .ok (.invokestatic 159, 3) := by decide +kernel
theorem dX8_distances_211 : decode cX8_distances 211 = .ok (.iastore, 1) := by decide +kernel
theorem dX8_distances_212 : decode cX8_distances 212 = .ok (.iinc 5 1, 3) := by decide +kernel
theorem dX8_distances_215 : decode cX8_distances 215 = .ok (.goto (-42), 3) := by decide +kernel
theorem dX8_distances_218 : decode cX8_distances 218 = .ok (.iinc 4 1, 3) := by decide +kernel
theorem dX8_distances_221 : decode cX8_distances 221 = .ok (.goto (-60), 3) := by decide +kernel
theorem dX8_distances_224 : decode cX8_distances 224 = .ok (.iinc 3 1, 3) := by decide +kernel
theorem dX8_distances_227 : decode cX8_distances 227 = .ok (.goto (-77), 3) := by decide +kernel
theorem dX8_distances_230 : decode cX8_distances 230 = .ok (.aload_n 2, 1) := by decide +kernel
theorem dX8_distances_231 : decode cX8_distances 231 = .ok (.areturn, 1) := by decide +kernel
def b_L_distances_26 (x1 : Int32) (x3 : Int32) (x4 : Int32) (z0 : Nat → Nat → Int32) (ν μ : gM) : Option ((Int32 × (Nat → Nat → Int32)) ⊕ ((Nat → Nat → Int32))) :=
  if ((gi ν 0 1) ≤ x4) then some (.inr z0) else gchk (gIn x3 (lPt ν)) (if (x3 = x4) then gchk (gIn x4 (lPt ν)) (some (.inl ((x4 + (1 : Int32)), (upd2 z0 x3.toNatClampNeg x4.toNatClampNeg (0 : Int32))))) else gchk (gIn x4 (lPt ν)) (some (.inl ((x4 + (1 : Int32)), (upd2 z0 x3.toNatClampNeg x4.toNatClampNeg (1000000 : Int32))))))
set_option maxHeartbeats 4000000 in
set_option maxRecDepth 100000 in
theorem wb_L_distances_26 {p : Program} {l : Launch} {e : Env} {s : State} {m : MethodId} {args : Array Value} {below : List Frame} {meth : Method} {c : Code} {D : va_G} {cy : Nat → ClassId} {ad : Nat → Nat} {b : Nat} {la : Nat → Nat → Nat} {ν : gM} {P : va_W} {x1 : Int32} {x3 : Int32} {x4 : Int32} {z0 : Nat → Nat → Int32} {μ : gM} {a1 : Nat} {r2 : Nat → Nat} {o : (Int32 × (Nat → Nat → Int32)) ⊕ ((Nat → Nat → Int32))} {RES : Nat → Nat → Int32} {cells slots C0 S0 CM SM : Nat} (h : b_L_distances_26 x1 x3 x4 z0 ν μ = some o) (F : gF p s m meth c cX8_distances RX8 6 (some (.array (.array .int)))) (E : hE l D cy ad b s) (hY : lY cy ad la ν P) (hc : cells + 0 ≤ C0) (hs : slots + 0 ≤ S0) (hcm : C0 ≤ CM) (hsm : S0 ≤ SM) (hcr : CM ≤ 21) (hsr : SM ≤ 120) (kc : ∀ (t : Int32 × (Nat → Nat → Int32)) {H : Heap} {locs : List Loc} {ls : Array Slot}, o = .inl t → hW D cy ad b μ P (hmat cy a1 r2 (lPt ν) t.2) H → va_S (hA b) s.heap H locs → lv_has ls 6 [(0, .ref (la 0 0)), (1, .int x1), (2, .ref a1), (3, .int x3), (4, .int t.1)] → W p l e ({ frames := 4, cells := 21, slots := 120, locals := 95 } : Room) s m args below meth c H locs C0 S0 (MQ below (hQ b (fun rv H => ∃ a r, rv = some (.ref a) ∧ hW D cy ad b μ P (hmat cy a r (lPt ν) RES) H)) args s 21 120 (hA b)) (F0 m 26 ls [])) (kx : ∀ (t : (Nat → Nat → Int32)) {H : Heap} {locs : List Loc} {ls : Array Slot}, o = .inr t → hW D cy ad b μ P (hmat cy a1 r2 (lPt ν) t) H → va_S (hA b) s.heap H locs → lv_has ls 6 [(0, .ref (la 0 0)), (1, .int x1), (2, .ref a1), (3, .int x3)] → W p l e ({ frames := 4, cells := 21, slots := 120, locals := 95 } : Room) s m args below meth c H locs CM SM (MQ below (hQ b (fun rv H => ∃ a r, rv = some (.ref a) ∧ hW D cy ad b μ P (hmat cy a r (lPt ν) RES) H)) args s 21 120 (hA b)) (F0 m 59 ls []))  {H : Heap} {locs : List Loc} {ls : Array Slot} (hM : hW D cy ad b μ P (hmat cy a1 r2 (lPt ν) z0) H) (hS : va_S (hA b) s.heap H locs) (hl : lv_has ls 6 [(0, .ref (la 0 0)), (1, .int x1), (2, .ref a1), (3, .int x3), (4, .int x4)]) : W p l e ({ frames := 4, cells := 21, slots := 120, locals := 95 } : Room) s m args below meth c H locs cells slots (MQ below (hQ b (fun rv H => ∃ a r, rv = some (.ref a) ∧ hW D cy ad b μ P (hmat cy a r (lPt ν) RES) H)) args s 21 120 (hA b)) (F0 m 26 ls []) := by
  obtain ⟨hx, hb, hml, hown, hlocks, hr⟩ := id F
  unfold b_L_distances_26 at h
  refine lv_iload hx hb dX8_distances_26 (lv_at hl 4 rfl) ?_
  refine lv_aload_n hx hb dX8_distances_28 rfl (lv_at hl 0 rfl) ?_
  refine h_get hx hb hown E hM (hp_m (hY.c1 0 rfl)) gC_X8 1 (by decide) (v := .int (gi ν 0 1)) rfl kw_1025 dX8_distances_29 ?_
  refine lv_icmp_ge (tgt := 59) hx hb dX8_distances_32 (by decide) (fun c4 => ?_) (fun c4 => ?_)
  · replace h := gif_t c4 h
    refine W.widen (k := CM) (n := SM) (by omega) (by omega) ?_
    exact kx _ (Option.some.inj h).symm hM hS (lv_sub hl [0, 1, 2, 3] rfl)
  · replace h := gif_f c4 h
    refine lv_aload_n hx hb dX8_distances_35 rfl (lv_at hl 2 rfl) ?_
    refine lv_iload_n hx hb dX8_distances_36 rfl (lv_at hl 3 rfl) ?_
    obtain ⟨c5, h⟩ := gchk_e h
    refine h_rald hx hb E hM (ht_m hmat_o) c5 (v := .ref (r2 x3.toNatClampNeg)) (x_lrf c5) dX8_distances_37 ?_
    refine lv_iload hx hb dX8_distances_38 (lv_at hl 4 rfl) ?_
    refine lv_iload_n hx hb dX8_distances_40 rfl (lv_at hl 3 rfl) ?_
    refine lv_iload hx hb dX8_distances_41 (lv_at hl 4 rfl) ?_
    refine lv_icmp_ne (tgt := 50) hx hb dX8_distances_43 (by decide) (fun c6 => ?_) (fun c6 => ?_)
    · replace h := gif_f c6 h
      refine lv_ldc hx hb hown (v := (1000000 : Int32)) (E.kw kw_1211) dX8_distances_50 ?_
      obtain ⟨c7, h⟩ := gchk_e h
      refine l_mst hx hb E hM hS c5.2 c7 dX8_distances_52 (fun H locs hM hS => ?_)
      refine lv_iinc (v := (x4 + (1 : Int32))) (lv' := [(4, .int (x4 + (1 : Int32))), (0, .ref (la 0 0)), (1, .int x1), (2, .ref a1), (3, .int x3)]) hx hb dX8_distances_53 hl (k := 4) rfl rfl (by decide) rfl (fun ls hl => ?_)
      refine lv_goto (tgt := 26) hx hb dX8_distances_56 (by decide) ?_
      refine W.widen (k := C0) (n := S0) (by omega) (by omega) ?_
      exact kc _ (Option.some.inj h).symm hM hS (lv_sub hl [1, 2, 3, 4, 0] rfl)
    · replace h := gif_t c6 h
      refine lv_iconst (v := (0 : Int32)) hx hb dX8_distances_46 (by decide) ?_
      refine lv_goto (tgt := 52) hx hb dX8_distances_47 (by decide) ?_
      obtain ⟨c8, h⟩ := gchk_e h
      refine l_mst hx hb E hM hS c5.2 c8 dX8_distances_52 (fun H locs hM hS => ?_)
      refine lv_iinc (v := (x4 + (1 : Int32))) (lv' := [(4, .int (x4 + (1 : Int32))), (0, .ref (la 0 0)), (1, .int x1), (2, .ref a1), (3, .int x3)]) hx hb dX8_distances_53 hl (k := 4) rfl rfl (by decide) rfl (fun ls hl => ?_)
      refine lv_goto (tgt := 26) hx hb dX8_distances_56 (by decide) ?_
      refine W.widen (k := C0) (n := S0) (by omega) (by omega) ?_
      exact kc _ (Option.some.inj h).symm hM hS (lv_sub hl [1, 2, 3, 4, 0] rfl)
set_option maxHeartbeats 4000000 in
theorem wl_L_distances_26 {p : Program} {l : Launch} {e : Env} {s : State} {m : MethodId} {args : Array Value} {below : List Frame} {meth : Method} {c : Code} {D : va_G} {cy : Nat → ClassId} {ad : Nat → Nat} {b : Nat} {la : Nat → Nat → Nat} {ν : gM} {P : va_W} {x1 : Int32} {x3 : Int32}  {μ : gM} {a1 : Nat} {r2 : Nat → Nat} {r : (Nat → Nat → Int32)} {RES : Nat → Nat → Int32} {CM SM : Nat} (F : gF p s m meth c cX8_distances RX8 6 (some (.array (.array .int)))) (E : hE l D cy ad b s) (hY : lY cy ad la ν P) (hcr : CM ≤ 21) (hsr : SM ≤ 120) (kx : ∀ (t : (Nat → Nat → Int32)) {H : Heap} {locs : List Loc} {ls : Array Slot}, r = t → hW D cy ad b μ P (hmat cy a1 r2 (lPt ν) t) H → va_S (hA b) s.heap H locs → lv_has ls 6 [(0, .ref (la 0 0)), (1, .int x1), (2, .ref a1), (3, .int x3)] → W p l e ({ frames := 4, cells := 21, slots := 120, locals := 95 } : Room) s m args below meth c H locs CM SM (MQ below (hQ b (fun rv H => ∃ a r, rv = some (.ref a) ∧ hW D cy ad b μ P (hmat cy a r (lPt ν) RES) H)) args s 21 120 (hA b)) (F0 m 59 ls []))  : ∀ (n : Nat) (x4 : Int32) (z0 : Nat → Nat → Int32) {cells slots : Nat}, cells + n * 0 ≤ CM → slots + n * 0 ≤ SM → gloop (fun t => b_L_distances_26 x1 x3 t.1 t.2 ν μ) n (x4, z0) = some r → ∀ {H : Heap} {locs : List Loc} {ls : Array Slot}, hW D cy ad b μ P (hmat cy a1 r2 (lPt ν) z0) H → va_S (hA b) s.heap H locs → lv_has ls 6 [(0, .ref (la 0 0)), (1, .int x1), (2, .ref a1), (3, .int x3), (4, .int x4)] → W p l e ({ frames := 4, cells := 21, slots := 120, locals := 95 } : Room) s m args below meth c H locs cells slots (MQ below (hQ b (fun rv H => ∃ a r, rv = some (.ref a) ∧ hW D cy ad b μ P (hmat cy a r (lPt ν) RES) H)) args s 21 120 (hA b)) (F0 m 26 ls []) := by
  intro n
  induction n with
  | zero =>
    intro x4 z0 cells slots hc hs h
    exact (gloop_0 h).elim
  | succ n ih =>
    intro x4 z0 cells slots hc hs h H locs ls hM hS hl
    obtain ⟨o, h0, hcc, hq⟩ := gloop_s h
    have h1 : b_L_distances_26 x1 x3 x4 z0 ν μ = some o := h0
    exact wb_L_distances_26 (C0 := cells + 0) (S0 := slots + 0) (CM := CM) (SM := SM) h1 F E hY  (by omega) (by omega) (by omega) (by omega) hcr hsr (fun t H locs ls ho hM hS hl => ih t.1 t.2 (by omega) (by omega) (hcc t ho) hM hS hl) (fun t H locs ls ho hM hS hl => kx t (hq _ ho).symm hM hS hl) hM hS hl
def b_L_distances_15 (x1 : Int32) (x3 : Int32) (z0 : Nat → Nat → Int32) (ν μ : gM) : Option ((Int32 × (Nat → Nat → Int32)) ⊕ ((Nat → Nat → Int32))) :=
  if ((gi ν 0 1) ≤ x3) then some (.inr z0) else Option.bind (gloop (fun t => b_L_distances_26 x1 x3 t.1 t.2 ν μ) 9 ((0 : Int32), z0)) (fun q9 => some (.inl ((x3 + (1 : Int32)), q9)))
set_option maxHeartbeats 4000000 in
set_option maxRecDepth 100000 in
theorem wb_L_distances_15 {p : Program} {l : Launch} {e : Env} {s : State} {m : MethodId} {args : Array Value} {below : List Frame} {meth : Method} {c : Code} {D : va_G} {cy : Nat → ClassId} {ad : Nat → Nat} {b : Nat} {la : Nat → Nat → Nat} {ν : gM} {P : va_W} {x1 : Int32} {x3 : Int32} {z0 : Nat → Nat → Int32} {μ : gM} {a1 : Nat} {r2 : Nat → Nat} {o : (Int32 × (Nat → Nat → Int32)) ⊕ ((Nat → Nat → Int32))} {RES : Nat → Nat → Int32} {cells slots C0 S0 CM SM : Nat} (h : b_L_distances_15 x1 x3 z0 ν μ = some o) (F : gF p s m meth c cX8_distances RX8 6 (some (.array (.array .int)))) (E : hE l D cy ad b s) (hY : lY cy ad la ν P) (hc : cells + 0 ≤ C0) (hs : slots + 0 ≤ S0) (hcm : C0 ≤ CM) (hsm : S0 ≤ SM) (hcr : CM ≤ 21) (hsr : SM ≤ 120) (kc : ∀ (t : Int32 × (Nat → Nat → Int32)) {H : Heap} {locs : List Loc} {ls : Array Slot}, o = .inl t → hW D cy ad b μ P (hmat cy a1 r2 (lPt ν) t.2) H → va_S (hA b) s.heap H locs → lv_has ls 6 [(0, .ref (la 0 0)), (1, .int x1), (2, .ref a1), (3, .int t.1)] → W p l e ({ frames := 4, cells := 21, slots := 120, locals := 95 } : Room) s m args below meth c H locs C0 S0 (MQ below (hQ b (fun rv H => ∃ a r, rv = some (.ref a) ∧ hW D cy ad b μ P (hmat cy a r (lPt ν) RES) H)) args s 21 120 (hA b)) (F0 m 15 ls [])) (kx : ∀ (t : (Nat → Nat → Int32)) {H : Heap} {locs : List Loc} {ls : Array Slot}, o = .inr t → hW D cy ad b μ P (hmat cy a1 r2 (lPt ν) t) H → va_S (hA b) s.heap H locs → lv_has ls 6 [(0, .ref (la 0 0)), (1, .int x1), (2, .ref a1)] → W p l e ({ frames := 4, cells := 21, slots := 120, locals := 95 } : Room) s m args below meth c H locs CM SM (MQ below (hQ b (fun rv H => ∃ a r, rv = some (.ref a) ∧ hW D cy ad b μ P (hmat cy a r (lPt ν) RES) H)) args s 21 120 (hA b)) (F0 m 65 ls []))  {H : Heap} {locs : List Loc} {ls : Array Slot} (hM : hW D cy ad b μ P (hmat cy a1 r2 (lPt ν) z0) H) (hS : va_S (hA b) s.heap H locs) (hl : lv_has ls 6 [(0, .ref (la 0 0)), (1, .int x1), (2, .ref a1), (3, .int x3)]) : W p l e ({ frames := 4, cells := 21, slots := 120, locals := 95 } : Room) s m args below meth c H locs cells slots (MQ below (hQ b (fun rv H => ∃ a r, rv = some (.ref a) ∧ hW D cy ad b μ P (hmat cy a r (lPt ν) RES) H)) args s 21 120 (hA b)) (F0 m 15 ls []) := by
  obtain ⟨hx, hb, hml, hown, hlocks, hr⟩ := id F
  unfold b_L_distances_15 at h
  refine lv_iload_n hx hb dX8_distances_15 rfl (lv_at hl 3 rfl) ?_
  refine lv_aload_n hx hb dX8_distances_16 rfl (lv_at hl 0 rfl) ?_
  refine h_get hx hb hown E hM (hp_m (hY.c1 0 rfl)) gC_X8 1 (by decide) (v := .int (gi ν 0 1)) rfl kw_1025 dX8_distances_17 ?_
  refine lv_icmp_ge (tgt := 65) hx hb dX8_distances_20 (by decide) (fun c3 => ?_) (fun c3 => ?_)
  · replace h := gif_t c3 h
    refine W.widen (k := CM) (n := SM) (by omega) (by omega) ?_
    exact kx _ (Option.some.inj h).symm hM hS (lv_sub hl [0, 1, 2] rfl)
  · replace h := gif_f c3 h
    refine lv_iconst (v := (0 : Int32)) hx hb dX8_distances_23 (by decide) ?_
    refine lv_istore (lv' := [(4, .int (0 : Int32)), (0, .ref (la 0 0)), (1, .int x1), (2, .ref a1), (3, .int x3)]) hx hb dX8_distances_24 hl (by decide) rfl (fun ls hl => ?_)
    obtain ⟨z10, h1, h⟩ := gbind_e h
    refine wl_L_distances_26 (CM := cells + 0) (SM := slots + 0) F E hY  (by omega) (by omega) (r := z10) (fun q9 H locs ls e1 hM hS hl => ?_) 9 (0 : Int32) z0 (by omega) (by omega) h1 hM hS (lv_sub hl [1, 2, 3, 4, 0] rfl)
    replace e1 : z10 = q9 := e1
    rw [e1] at h
    refine lv_iinc (v := (x3 + (1 : Int32))) (lv' := [(3, .int (x3 + (1 : Int32))), (0, .ref (la 0 0)), (1, .int x1), (2, .ref a1)]) hx hb dX8_distances_59 hl (k := 3) rfl rfl (by decide) rfl (fun ls hl => ?_)
    refine lv_goto (tgt := 15) hx hb dX8_distances_62 (by decide) ?_
    refine W.widen (k := C0) (n := S0) (by omega) (by omega) ?_
    exact kc _ (Option.some.inj h).symm hM hS (lv_sub hl [1, 2, 3, 0] rfl)
set_option maxHeartbeats 4000000 in
theorem wl_L_distances_15 {p : Program} {l : Launch} {e : Env} {s : State} {m : MethodId} {args : Array Value} {below : List Frame} {meth : Method} {c : Code} {D : va_G} {cy : Nat → ClassId} {ad : Nat → Nat} {b : Nat} {la : Nat → Nat → Nat} {ν : gM} {P : va_W} {x1 : Int32}  {μ : gM} {a1 : Nat} {r2 : Nat → Nat} {r : (Nat → Nat → Int32)} {RES : Nat → Nat → Int32} {CM SM : Nat} (F : gF p s m meth c cX8_distances RX8 6 (some (.array (.array .int)))) (E : hE l D cy ad b s) (hY : lY cy ad la ν P) (hcr : CM ≤ 21) (hsr : SM ≤ 120) (kx : ∀ (t : (Nat → Nat → Int32)) {H : Heap} {locs : List Loc} {ls : Array Slot}, r = t → hW D cy ad b μ P (hmat cy a1 r2 (lPt ν) t) H → va_S (hA b) s.heap H locs → lv_has ls 6 [(0, .ref (la 0 0)), (1, .int x1), (2, .ref a1)] → W p l e ({ frames := 4, cells := 21, slots := 120, locals := 95 } : Room) s m args below meth c H locs CM SM (MQ below (hQ b (fun rv H => ∃ a r, rv = some (.ref a) ∧ hW D cy ad b μ P (hmat cy a r (lPt ν) RES) H)) args s 21 120 (hA b)) (F0 m 65 ls []))  : ∀ (n : Nat) (x3 : Int32) (z0 : Nat → Nat → Int32) {cells slots : Nat}, cells + n * 0 ≤ CM → slots + n * 0 ≤ SM → gloop (fun t => b_L_distances_15 x1 t.1 t.2 ν μ) n (x3, z0) = some r → ∀ {H : Heap} {locs : List Loc} {ls : Array Slot}, hW D cy ad b μ P (hmat cy a1 r2 (lPt ν) z0) H → va_S (hA b) s.heap H locs → lv_has ls 6 [(0, .ref (la 0 0)), (1, .int x1), (2, .ref a1), (3, .int x3)] → W p l e ({ frames := 4, cells := 21, slots := 120, locals := 95 } : Room) s m args below meth c H locs cells slots (MQ below (hQ b (fun rv H => ∃ a r, rv = some (.ref a) ∧ hW D cy ad b μ P (hmat cy a r (lPt ν) RES) H)) args s 21 120 (hA b)) (F0 m 15 ls []) := by
  intro n
  induction n with
  | zero =>
    intro x3 z0 cells slots hc hs h
    exact (gloop_0 h).elim
  | succ n ih =>
    intro x3 z0 cells slots hc hs h H locs ls hM hS hl
    obtain ⟨o, h0, hcc, hq⟩ := gloop_s h
    have h1 : b_L_distances_15 x1 x3 z0 ν μ = some o := h0
    exact wb_L_distances_15 (C0 := cells + 0) (S0 := slots + 0) (CM := CM) (SM := SM) h1 F E hY  (by omega) (by omega) (by omega) (by omega) hcr hsr (fun t H locs ls ho hM hS hl => ih t.1 t.2 (by omega) (by omega) (hcc t ho) hM hS hl) (fun t H locs ls ho hM hS hl => kx t (hq _ ho).symm hM hS hl) hM hS hl
def b_L_distances_67 (x1 : Int32) (x3 : Int32) (z0 : Nat → Nat → Int32) (ν μ : gM) : Option ((Int32 × (Nat → Nat → Int32)) ⊕ ((Nat → Nat → Int32))) :=
  if ((gi ν 0 2) ≤ x3) then some (.inr z0) else gchk (gIn x3 (lLn ν)) (if ((gi ν 5 x3.toNatClampNeg) = 0) then some (.inl ((x3 + (1 : Int32)), z0)) else if (x3 = x1) then some (.inl ((x3 + (1 : Int32)), z0)) else gchk (gIn x3 (lLn ν)) (gchk (gIn x3 (lLn ν)) (gchk (gIn (gi ν (20 + x3.toNatClampNeg) 0) (lPt ν)) (gchk (gIn (gi ν (20 + x3.toNatClampNeg) 1) (lPt ν)) (gchk (gIn (gi ν (20 + x3.toNatClampNeg) 0) (lPt ν)) (gchk (gIn (gi ν (20 + x3.toNatClampNeg) 1) (lPt ν)) (Option.bind (f_L_length x3 ν μ) (fun q24 => gchk (gIn (gi ν (20 + x3.toNatClampNeg) 0) (lPt ν)) (gchk (gIn (gi ν (20 + x3.toNatClampNeg) 1) (lPt ν)) (some (.inl ((x3 + (1 : Int32)), (upd2 (upd2 z0 (gi ν (20 + x3.toNatClampNeg) 1).toNatClampNeg (gi ν (20 + x3.toNatClampNeg) 0).toNatClampNeg (imin (z0 (gi ν (20 + x3.toNatClampNeg) 0).toNatClampNeg (gi ν (20 + x3.toNatClampNeg) 1).toNatClampNeg) q24)) (gi ν (20 + x3.toNatClampNeg) 0).toNatClampNeg (gi ν (20 + x3.toNatClampNeg) 1).toNatClampNeg (imin (z0 (gi ν (20 + x3.toNatClampNeg) 0).toNatClampNeg (gi ν (20 + x3.toNatClampNeg) 1).toNatClampNeg) q24))))))))))))))
set_option maxHeartbeats 4000000 in
set_option maxRecDepth 100000 in
theorem wb_L_distances_67 {p : Program} {l : Launch} {e : Env} {s : State} {m : MethodId} {args : Array Value} {below : List Frame} {meth : Method} {c : Code} {D : va_G} {cy : Nat → ClassId} {ad : Nat → Nat} {b : Nat} {la : Nat → Nat → Nat} {ν : gM} {P : va_W} {x1 : Int32} {x3 : Int32} {z0 : Nat → Nat → Int32} {μ : gM} {a1 : Nat} {r2 : Nat → Nat} {o : (Int32 × (Nat → Nat → Int32)) ⊕ ((Nat → Nat → Int32))} {RES : Nat → Nat → Int32} {cells slots C0 S0 CM SM : Nat} (h : b_L_distances_67 x1 x3 z0 ν μ = some o) (F : gF p s m meth c cX8_distances RX8 6 (some (.array (.array .int)))) (E : hE l D cy ad b s) (hY : lY cy ad la ν P) (hc : cells + 1 ≤ C0) (hs : slots + 4 ≤ S0) (hcm : C0 ≤ CM) (hsm : S0 ≤ SM) (hcr : CM ≤ 21) (hsr : SM ≤ 120) (kc : ∀ (t : Int32 × (Nat → Nat → Int32)) {H : Heap} {locs : List Loc} {ls : Array Slot}, o = .inl t → hW D cy ad b μ P (hmat cy a1 r2 (lPt ν) t.2) H → va_S (hA b) s.heap H locs → lv_has ls 6 [(0, .ref (la 0 0)), (1, .int x1), (2, .ref a1), (3, .int t.1)] → W p l e ({ frames := 4, cells := 21, slots := 120, locals := 95 } : Room) s m args below meth c H locs C0 S0 (MQ below (hQ b (fun rv H => ∃ a r, rv = some (.ref a) ∧ hW D cy ad b μ P (hmat cy a r (lPt ν) RES) H)) args s 21 120 (hA b)) (F0 m 67 ls [])) (kx : ∀ (t : (Nat → Nat → Int32)) {H : Heap} {locs : List Loc} {ls : Array Slot}, o = .inr t → hW D cy ad b μ P (hmat cy a1 r2 (lPt ν) t) H → va_S (hA b) s.heap H locs → lv_has ls 6 [(0, .ref (la 0 0)), (2, .ref a1)] → W p l e ({ frames := 4, cells := 21, slots := 120, locals := 95 } : Room) s m args below meth c H locs CM SM (MQ below (hQ b (fun rv H => ∃ a r, rv = some (.ref a) ∧ hW D cy ad b μ P (hmat cy a r (lPt ν) RES) H)) args s 21 120 (hA b)) (F0 m 148 ls []))  {H : Heap} {locs : List Loc} {ls : Array Slot} (hM : hW D cy ad b μ P (hmat cy a1 r2 (lPt ν) z0) H) (hS : va_S (hA b) s.heap H locs) (hl : lv_has ls 6 [(0, .ref (la 0 0)), (1, .int x1), (2, .ref a1), (3, .int x3)]) : W p l e ({ frames := 4, cells := 21, slots := 120, locals := 95 } : Room) s m args below meth c H locs cells slots (MQ below (hQ b (fun rv H => ∃ a r, rv = some (.ref a) ∧ hW D cy ad b μ P (hmat cy a r (lPt ν) RES) H)) args s 21 120 (hA b)) (F0 m 67 ls []) := by
  obtain ⟨hx, hb, hml, hown, hlocks, hr⟩ := id F
  unfold b_L_distances_67 at h
  refine lv_iload_n hx hb dX8_distances_67 rfl (lv_at hl 3 rfl) ?_
  refine lv_aload_n hx hb dX8_distances_68 rfl (lv_at hl 0 rfl) ?_
  refine h_get hx hb hown E hM (hp_m (hY.c1 0 rfl)) gC_X8 2 (by decide) (v := .int (gi ν 0 2)) rfl kw_1026 dX8_distances_69 ?_
  refine lv_icmp_ge (tgt := 148) hx hb dX8_distances_72 (by decide) (fun c12 => ?_) (fun c12 => ?_)
  · replace h := gif_t c12 h
    refine W.widen (k := CM) (n := SM) (by omega) (by omega) ?_
    exact kx _ (Option.some.inj h).symm hM hS (lv_sub hl [0, 2] rfl)
  · replace h := gif_f c12 h
    refine lv_aload_n hx hb dX8_distances_75 rfl (lv_at hl 0 rfl) ?_
    refine h_get hx hb hown E hM (hp_m (hY.c1 0 rfl)) gC_X8 7 (by decide) (v := .ref (la 5 0)) rfl kw_1031 dX8_distances_76 ?_
    refine lv_iload_n hx hb dX8_distances_79 rfl (lv_at hl 3 rfl) ?_
    obtain ⟨c13, h⟩ := gchk_e h
    refine l_zald hx hb E hM (hp_m (hY.c1 5 rfl)) c13 (v := (gi ν 5 x3.toNatClampNeg)) rfl dX8_distances_80 ?_
    refine lv_if_eq (tgt := 142) hx hb dX8_distances_81 (by decide) (fun c14 => ?_) (fun c14 => ?_)
    · replace h := gif_t c14 h
      refine lv_iinc (v := (x3 + (1 : Int32))) (lv' := [(3, .int (x3 + (1 : Int32))), (0, .ref (la 0 0)), (1, .int x1), (2, .ref a1)]) hx hb dX8_distances_142 hl (k := 3) rfl rfl (by decide) rfl (fun ls hl => ?_)
      refine lv_goto (tgt := 67) hx hb dX8_distances_145 (by decide) ?_
      refine W.widen (k := C0) (n := S0) (by omega) (by omega) ?_
      exact kc _ (Option.some.inj h).symm hM hS (lv_sub hl [1, 2, 3, 0] rfl)
    · replace h := gif_f c14 h
      refine lv_iload_n hx hb dX8_distances_84 rfl (lv_at hl 3 rfl) ?_
      refine lv_iload_n hx hb dX8_distances_85 rfl (lv_at hl 1 rfl) ?_
      refine lv_icmp_ne (tgt := 92) hx hb dX8_distances_86 (by decide) (fun c15 => ?_) (fun c15 => ?_)
      · replace h := gif_f c15 h
        refine lv_aload_n hx hb dX8_distances_92 rfl (lv_at hl 0 rfl) ?_
        refine h_get hx hb hown E hM (hp_m (hY.c1 0 rfl)) gC_X8 5 (by decide) (v := .ref (la 3 0)) rfl kw_1029 dX8_distances_93 ?_
        refine lv_iload_n hx hb dX8_distances_96 rfl (lv_at hl 3 rfl) ?_
        obtain ⟨c16, h⟩ := gchk_e h
        refine h_rald hx hb E hM (hp_m (hY.c1 3 rfl)) c16 (v := .ref (la 20 x3.toNatClampNeg)) (x_lrf c16) dX8_distances_97 ?_
        refine lv_iconst (v := (0 : Int32)) hx hb dX8_distances_98 (by decide) ?_
        refine l_iald hx hb E hM (hp_m (hY.c2 c16.2 0 rfl)) (⟨by decide, by decide⟩ : gIn (0 : Int32) 2) (v := (gi ν (20 + x3.toNatClampNeg) 0)) (congrArg (ν.1 (20 + x3.toNatClampNeg)) (by decide : (0 : Int32).toNatClampNeg = 0)) dX8_distances_99 ?_
        refine lv_istore (lv' := [(4, .int (gi ν (20 + x3.toNatClampNeg) 0)), (0, .ref (la 0 0)), (1, .int x1), (2, .ref a1), (3, .int x3)]) hx hb dX8_distances_100 hl (by decide) rfl (fun ls hl => ?_)
        refine lv_aload_n hx hb dX8_distances_102 rfl (lv_at hl 1 rfl) ?_
        refine h_get hx hb hown E hM (hp_m (hY.c1 0 rfl)) gC_X8 5 (by decide) (v := .ref (la 3 0)) rfl kw_1029 dX8_distances_103 ?_
        refine lv_iload_n hx hb dX8_distances_106 rfl (lv_at hl 4 rfl) ?_
        obtain ⟨c18, h⟩ := gchk_e h
        refine h_rald hx hb E hM (hp_m (hY.c1 3 rfl)) c18 (v := .ref (la 20 x3.toNatClampNeg)) (x_lrf c18) dX8_distances_107 ?_
        refine lv_iconst (v := (1 : Int32)) hx hb dX8_distances_108 (by decide) ?_
        refine l_iald hx hb E hM (hp_m (hY.c2 c18.2 0 rfl)) (⟨by decide, by decide⟩ : gIn (1 : Int32) 2) (v := (gi ν (20 + x3.toNatClampNeg) 1)) (congrArg (ν.1 (20 + x3.toNatClampNeg)) (by decide : (1 : Int32).toNatClampNeg = 1)) dX8_distances_109 ?_
        refine lv_istore (lv' := [(5, .int (gi ν (20 + x3.toNatClampNeg) 1)), (4, .int (gi ν (20 + x3.toNatClampNeg) 0)), (0, .ref (la 0 0)), (1, .int x1), (2, .ref a1), (3, .int x3)]) hx hb dX8_distances_110 hl (by decide) rfl (fun ls hl => ?_)
        refine lv_aload_n hx hb dX8_distances_112 rfl (lv_at hl 4 rfl) ?_
        refine lv_iload hx hb dX8_distances_113 (lv_at hl 1 rfl) ?_
        obtain ⟨c20, h⟩ := gchk_e h
        refine h_rald hx hb E hM (ht_m hmat_o) c20 (v := .ref (r2 (gi ν (20 + x3.toNatClampNeg) 0).toNatClampNeg)) (x_lrf c20) dX8_distances_115 ?_
        refine lv_iload hx hb dX8_distances_116 (lv_at hl 0 rfl) ?_
        refine lv_aload_n hx hb dX8_distances_118 rfl (lv_at hl 4 rfl) ?_
        refine lv_iload hx hb dX8_distances_119 (lv_at hl 0 rfl) ?_
        obtain ⟨c21, h⟩ := gchk_e h
        refine h_rald hx hb E hM (ht_m hmat_o) c21 (v := .ref (r2 (gi ν (20 + x3.toNatClampNeg) 1).toNatClampNeg)) (x_lrf c21) dX8_distances_121 ?_
        refine lv_iload hx hb dX8_distances_122 (lv_at hl 1 rfl) ?_
        refine lv_aload_n hx hb dX8_distances_124 rfl (lv_at hl 4 rfl) ?_
        refine lv_iload hx hb dX8_distances_125 (lv_at hl 1 rfl) ?_
        obtain ⟨c22, h⟩ := gchk_e h
        refine h_rald hx hb E hM (ht_m hmat_o) c22 (v := .ref (r2 (gi ν (20 + x3.toNatClampNeg) 0).toNatClampNeg)) (x_lrf c22) dX8_distances_127 ?_
        refine lv_iload hx hb dX8_distances_128 (lv_at hl 0 rfl) ?_
        obtain ⟨c23, h⟩ := gchk_e h
        refine l_iald hx hb E hM (ht_m (hmat_r c22.2)) c23 (v := (z0 (gi ν (20 + x3.toNatClampNeg) 0).toNatClampNeg (gi ν (20 + x3.toNatClampNeg) 1).toNatClampNeg)) rfl dX8_distances_130 ?_
        refine lv_aload_n hx hb dX8_distances_131 rfl (lv_at hl 2 rfl) ?_
        refine lv_iload_n hx hb dX8_distances_132 rfl (lv_at hl 5 rfl) ?_
        obtain ⟨q24, hq24, h⟩ := gbind_e h
        replace hM := hW.low (T := (hmat cy a1 r2 (lPt ν) z0)) hM
        refine h_callV (As := [.int x3]) (rest := [.int (z0 (gi ν (20 + x3.toNatClampNeg) 0).toNatClampNeg (gi ν (20 + x3.toNatClampNeg) 1).toNatClampNeg), .int (gi ν (20 + x3.toNatClampNeg) 0), .ref (r2 (gi ν (20 + x3.toNatClampNeg) 1).toNatClampNeg), .int (gi ν (20 + x3.toNatClampNeg) 1), .ref (r2 (gi ν (20 + x3.toNatClampNeg) 0).toNatClampNeg)]) hx hb (hml.trans hl.1.symm) hown E hM hS xy_X8_length kw_1207 (c_L_length (hY.app _) hq24) (hp_m ((hY.app _).c1 0 rfl)) gC_X8.1 rfl rfl (Nat.le_of_ble_eq_true rfl) ⟨(Nat.le_of_ble_eq_true rfl), (Nat.le_of_ble_eq_true rfl)⟩ ⟨(show _ ≤ 21 by omega), (show _ ≤ 120 by omega)⟩ dX8_distances_133 (fun rv H locs hZ hS => ?_)
        obtain ⟨rfl, hM⟩ := hZ
        replace hM := hW.up (T := (hmat cy a1 r2 (lPt ν) z0)) hM
        refine va_mmin hx hb (hml.trans hl.1.symm) hown (E.kw kw_1235) (E.kw kw_622) (E.kw kw_67) (E.kw kw_623) (Nat.le_of_ble_eq_true rfl) (Nat.le_of_ble_eq_true rfl) (show _ ≤ 21 by omega) (show _ ≤ 120 by omega) dX8_distances_136 ?_
        refine lv_dup_x2 hx hb dX8_distances_139 rfl rfl rfl ?_
        obtain ⟨c25, h⟩ := gchk_e h
        refine l_mst hx hb E hM hS c21.2 c25 dX8_distances_140 (fun H locs hM hS => ?_)
        obtain ⟨c26, h⟩ := gchk_e h
        refine l_mst hx hb E hM hS c20.2 c26 dX8_distances_141 (fun H locs hM hS => ?_)
        refine lv_iinc (v := (x3 + (1 : Int32))) (lv' := [(3, .int (x3 + (1 : Int32))), (5, .int (gi ν (20 + x3.toNatClampNeg) 1)), (4, .int (gi ν (20 + x3.toNatClampNeg) 0)), (0, .ref (la 0 0)), (1, .int x1), (2, .ref a1)]) hx hb dX8_distances_142 hl (k := 5) rfl rfl (by decide) rfl (fun ls hl => ?_)
        refine lv_goto (tgt := 67) hx hb dX8_distances_145 (by decide) ?_
        refine W.widen (k := C0) (n := S0) (by omega) (by omega) ?_
        exact kc _ (Option.some.inj h).symm hM hS (lv_sub hl [3, 4, 5, 0] rfl)
      · replace h := gif_t c15 h
        refine lv_goto (tgt := 142) hx hb dX8_distances_89 (by decide) ?_
        refine lv_iinc (v := (x3 + (1 : Int32))) (lv' := [(3, .int (x3 + (1 : Int32))), (0, .ref (la 0 0)), (1, .int x1), (2, .ref a1)]) hx hb dX8_distances_142 hl (k := 3) rfl rfl (by decide) rfl (fun ls hl => ?_)
        refine lv_goto (tgt := 67) hx hb dX8_distances_145 (by decide) ?_
        refine W.widen (k := C0) (n := S0) (by omega) (by omega) ?_
        exact kc _ (Option.some.inj h).symm hM hS (lv_sub hl [1, 2, 3, 0] rfl)
set_option maxHeartbeats 4000000 in
theorem wl_L_distances_67 {p : Program} {l : Launch} {e : Env} {s : State} {m : MethodId} {args : Array Value} {below : List Frame} {meth : Method} {c : Code} {D : va_G} {cy : Nat → ClassId} {ad : Nat → Nat} {b : Nat} {la : Nat → Nat → Nat} {ν : gM} {P : va_W} {x1 : Int32}  {μ : gM} {a1 : Nat} {r2 : Nat → Nat} {r : (Nat → Nat → Int32)} {RES : Nat → Nat → Int32} {CM SM : Nat} (F : gF p s m meth c cX8_distances RX8 6 (some (.array (.array .int)))) (E : hE l D cy ad b s) (hY : lY cy ad la ν P) (hcr : CM ≤ 21) (hsr : SM ≤ 120) (kx : ∀ (t : (Nat → Nat → Int32)) {H : Heap} {locs : List Loc} {ls : Array Slot}, r = t → hW D cy ad b μ P (hmat cy a1 r2 (lPt ν) t) H → va_S (hA b) s.heap H locs → lv_has ls 6 [(0, .ref (la 0 0)), (2, .ref a1)] → W p l e ({ frames := 4, cells := 21, slots := 120, locals := 95 } : Room) s m args below meth c H locs CM SM (MQ below (hQ b (fun rv H => ∃ a r, rv = some (.ref a) ∧ hW D cy ad b μ P (hmat cy a r (lPt ν) RES) H)) args s 21 120 (hA b)) (F0 m 148 ls []))  : ∀ (n : Nat) (x3 : Int32) (z0 : Nat → Nat → Int32) {cells slots : Nat}, cells + n * 1 ≤ CM → slots + n * 4 ≤ SM → gloop (fun t => b_L_distances_67 x1 t.1 t.2 ν μ) n (x3, z0) = some r → ∀ {H : Heap} {locs : List Loc} {ls : Array Slot}, hW D cy ad b μ P (hmat cy a1 r2 (lPt ν) z0) H → va_S (hA b) s.heap H locs → lv_has ls 6 [(0, .ref (la 0 0)), (1, .int x1), (2, .ref a1), (3, .int x3)] → W p l e ({ frames := 4, cells := 21, slots := 120, locals := 95 } : Room) s m args below meth c H locs cells slots (MQ below (hQ b (fun rv H => ∃ a r, rv = some (.ref a) ∧ hW D cy ad b μ P (hmat cy a r (lPt ν) RES) H)) args s 21 120 (hA b)) (F0 m 67 ls []) := by
  intro n
  induction n with
  | zero =>
    intro x3 z0 cells slots hc hs h
    exact (gloop_0 h).elim
  | succ n ih =>
    intro x3 z0 cells slots hc hs h H locs ls hM hS hl
    obtain ⟨o, h0, hcc, hq⟩ := gloop_s h
    have h1 : b_L_distances_67 x1 x3 z0 ν μ = some o := h0
    exact wb_L_distances_67 (C0 := cells + 1) (S0 := slots + 4) (CM := CM) (SM := SM) h1 F E hY  (by omega) (by omega) (by omega) (by omega) hcr hsr (fun t H locs ls ho hM hS hl => ih t.1 t.2 (by omega) (by omega) (hcc t ho) hM hS hl) (fun t H locs ls ho hM hS hl => kx t (hq _ ho).symm hM hS hl) hM hS hl
def b_L_distances_173 (x3 : Int32) (x4 : Int32) (x5 : Int32) (z0 : Nat → Nat → Int32) (ν μ : gM) : Option ((Int32 × (Nat → Nat → Int32)) ⊕ ((Nat → Nat → Int32))) :=
  if ((gi ν 0 1) ≤ x5) then some (.inr z0) else gchk (gIn x4 (lPt ν)) (gchk (gIn x4 (lPt ν)) (gchk (gIn x5 (lPt ν)) (gchk (gIn x4 (lPt ν)) (gchk (gIn x3 (lPt ν)) (gchk (gIn x3 (lPt ν)) (gchk (gIn x5 (lPt ν)) (gchk (gIn x5 (lPt ν)) (some (.inl ((x5 + (1 : Int32)), (upd2 z0 x4.toNatClampNeg x5.toNatClampNeg (imin (z0 x4.toNatClampNeg x5.toNatClampNeg) ((z0 x4.toNatClampNeg x3.toNatClampNeg) + (z0 x3.toNatClampNeg x5.toNatClampNeg))))))))))))))
set_option maxHeartbeats 4000000 in
set_option maxRecDepth 100000 in
theorem wb_L_distances_173 {p : Program} {l : Launch} {e : Env} {s : State} {m : MethodId} {args : Array Value} {below : List Frame} {meth : Method} {c : Code} {D : va_G} {cy : Nat → ClassId} {ad : Nat → Nat} {b : Nat} {la : Nat → Nat → Nat} {ν : gM} {P : va_W} {x3 : Int32} {x4 : Int32} {x5 : Int32} {z0 : Nat → Nat → Int32} {μ : gM} {a1 : Nat} {r2 : Nat → Nat} {o : (Int32 × (Nat → Nat → Int32)) ⊕ ((Nat → Nat → Int32))} {RES : Nat → Nat → Int32} {cells slots C0 S0 CM SM : Nat} (h : b_L_distances_173 x3 x4 x5 z0 ν μ = some o) (F : gF p s m meth c cX8_distances RX8 6 (some (.array (.array .int)))) (E : hE l D cy ad b s) (hY : lY cy ad la ν P) (hc : cells + 0 ≤ C0) (hs : slots + 0 ≤ S0) (hcm : C0 ≤ CM) (hsm : S0 ≤ SM) (hcr : CM ≤ 21) (hsr : SM ≤ 120) (kc : ∀ (t : Int32 × (Nat → Nat → Int32)) {H : Heap} {locs : List Loc} {ls : Array Slot}, o = .inl t → hW D cy ad b μ P (hmat cy a1 r2 (lPt ν) t.2) H → va_S (hA b) s.heap H locs → lv_has ls 6 [(0, .ref (la 0 0)), (2, .ref a1), (3, .int x3), (4, .int x4), (5, .int t.1)] → W p l e ({ frames := 4, cells := 21, slots := 120, locals := 95 } : Room) s m args below meth c H locs C0 S0 (MQ below (hQ b (fun rv H => ∃ a r, rv = some (.ref a) ∧ hW D cy ad b μ P (hmat cy a r (lPt ν) RES) H)) args s 21 120 (hA b)) (F0 m 173 ls [])) (kx : ∀ (t : (Nat → Nat → Int32)) {H : Heap} {locs : List Loc} {ls : Array Slot}, o = .inr t → hW D cy ad b μ P (hmat cy a1 r2 (lPt ν) t) H → va_S (hA b) s.heap H locs → lv_has ls 6 [(0, .ref (la 0 0)), (2, .ref a1), (3, .int x3), (4, .int x4)] → W p l e ({ frames := 4, cells := 21, slots := 120, locals := 95 } : Room) s m args below meth c H locs CM SM (MQ below (hQ b (fun rv H => ∃ a r, rv = some (.ref a) ∧ hW D cy ad b μ P (hmat cy a r (lPt ν) RES) H)) args s 21 120 (hA b)) (F0 m 218 ls []))  {H : Heap} {locs : List Loc} {ls : Array Slot} (hM : hW D cy ad b μ P (hmat cy a1 r2 (lPt ν) z0) H) (hS : va_S (hA b) s.heap H locs) (hl : lv_has ls 6 [(0, .ref (la 0 0)), (2, .ref a1), (3, .int x3), (4, .int x4), (5, .int x5)]) : W p l e ({ frames := 4, cells := 21, slots := 120, locals := 95 } : Room) s m args below meth c H locs cells slots (MQ below (hQ b (fun rv H => ∃ a r, rv = some (.ref a) ∧ hW D cy ad b μ P (hmat cy a r (lPt ν) RES) H)) args s 21 120 (hA b)) (F0 m 173 ls []) := by
  obtain ⟨hx, hb, hml, hown, hlocks, hr⟩ := id F
  unfold b_L_distances_173 at h
  refine lv_iload hx hb dX8_distances_173 (lv_at hl 4 rfl) ?_
  refine lv_aload_n hx hb dX8_distances_175 rfl (lv_at hl 0 rfl) ?_
  refine h_get hx hb hown E hM (hp_m (hY.c1 0 rfl)) gC_X8 1 (by decide) (v := .int (gi ν 0 1)) rfl kw_1025 dX8_distances_176 ?_
  refine lv_icmp_ge (tgt := 218) hx hb dX8_distances_179 (by decide) (fun c30 => ?_) (fun c30 => ?_)
  · replace h := gif_t c30 h
    refine W.widen (k := CM) (n := SM) (by omega) (by omega) ?_
    exact kx _ (Option.some.inj h).symm hM hS (lv_sub hl [0, 1, 2, 3] rfl)
  · replace h := gif_f c30 h
    refine lv_aload_n hx hb dX8_distances_182 rfl (lv_at hl 1 rfl) ?_
    refine lv_iload hx hb dX8_distances_183 (lv_at hl 3 rfl) ?_
    obtain ⟨c31, h⟩ := gchk_e h
    refine h_rald hx hb E hM (ht_m hmat_o) c31 (v := .ref (r2 x4.toNatClampNeg)) (x_lrf c31) dX8_distances_185 ?_
    refine lv_iload hx hb dX8_distances_186 (lv_at hl 4 rfl) ?_
    refine lv_aload_n hx hb dX8_distances_188 rfl (lv_at hl 1 rfl) ?_
    refine lv_iload hx hb dX8_distances_189 (lv_at hl 3 rfl) ?_
    obtain ⟨c32, h⟩ := gchk_e h
    refine h_rald hx hb E hM (ht_m hmat_o) c32 (v := .ref (r2 x4.toNatClampNeg)) (x_lrf c32) dX8_distances_191 ?_
    refine lv_iload hx hb dX8_distances_192 (lv_at hl 4 rfl) ?_
    obtain ⟨c33, h⟩ := gchk_e h
    refine l_iald hx hb E hM (ht_m (hmat_r c32.2)) c33 (v := (z0 x4.toNatClampNeg x5.toNatClampNeg)) rfl dX8_distances_194 ?_
    refine lv_aload_n hx hb dX8_distances_195 rfl (lv_at hl 1 rfl) ?_
    refine lv_iload hx hb dX8_distances_196 (lv_at hl 3 rfl) ?_
    obtain ⟨c34, h⟩ := gchk_e h
    refine h_rald hx hb E hM (ht_m hmat_o) c34 (v := .ref (r2 x4.toNatClampNeg)) (x_lrf c34) dX8_distances_198 ?_
    refine lv_iload_n hx hb dX8_distances_199 rfl (lv_at hl 2 rfl) ?_
    obtain ⟨c35, h⟩ := gchk_e h
    refine l_iald hx hb E hM (ht_m (hmat_r c34.2)) c35 (v := (z0 x4.toNatClampNeg x3.toNatClampNeg)) rfl dX8_distances_200 ?_
    refine lv_aload_n hx hb dX8_distances_201 rfl (lv_at hl 1 rfl) ?_
    refine lv_iload_n hx hb dX8_distances_202 rfl (lv_at hl 2 rfl) ?_
    obtain ⟨c36, h⟩ := gchk_e h
    refine h_rald hx hb E hM (ht_m hmat_o) c36 (v := .ref (r2 x3.toNatClampNeg)) (x_lrf c36) dX8_distances_203 ?_
    refine lv_iload hx hb dX8_distances_204 (lv_at hl 4 rfl) ?_
    obtain ⟨c37, h⟩ := gchk_e h
    refine l_iald hx hb E hM (ht_m (hmat_r c36.2)) c37 (v := (z0 x3.toNatClampNeg x5.toNatClampNeg)) rfl dX8_distances_206 ?_
    refine lv_iadd hx hb dX8_distances_207 ?_
    refine va_mmin hx hb (hml.trans hl.1.symm) hown (E.kw kw_1235) (E.kw kw_622) (E.kw kw_67) (E.kw kw_623) (Nat.le_of_ble_eq_true rfl) (Nat.le_of_ble_eq_true rfl) (show _ ≤ 21 by omega) (show _ ≤ 120 by omega) dX8_distances_208 ?_
    obtain ⟨c38, h⟩ := gchk_e h
    refine l_mst hx hb E hM hS c31.2 c38 dX8_distances_211 (fun H locs hM hS => ?_)
    refine lv_iinc (v := (x5 + (1 : Int32))) (lv' := [(5, .int (x5 + (1 : Int32))), (0, .ref (la 0 0)), (2, .ref a1), (3, .int x3), (4, .int x4)]) hx hb dX8_distances_212 hl (k := 4) rfl rfl (by decide) rfl (fun ls hl => ?_)
    refine lv_goto (tgt := 173) hx hb dX8_distances_215 (by decide) ?_
    refine W.widen (k := C0) (n := S0) (by omega) (by omega) ?_
    exact kc _ (Option.some.inj h).symm hM hS (lv_sub hl [1, 2, 3, 4, 0] rfl)
set_option maxHeartbeats 4000000 in
theorem wl_L_distances_173 {p : Program} {l : Launch} {e : Env} {s : State} {m : MethodId} {args : Array Value} {below : List Frame} {meth : Method} {c : Code} {D : va_G} {cy : Nat → ClassId} {ad : Nat → Nat} {b : Nat} {la : Nat → Nat → Nat} {ν : gM} {P : va_W} {x3 : Int32} {x4 : Int32}  {μ : gM} {a1 : Nat} {r2 : Nat → Nat} {r : (Nat → Nat → Int32)} {RES : Nat → Nat → Int32} {CM SM : Nat} (F : gF p s m meth c cX8_distances RX8 6 (some (.array (.array .int)))) (E : hE l D cy ad b s) (hY : lY cy ad la ν P) (hcr : CM ≤ 21) (hsr : SM ≤ 120) (kx : ∀ (t : (Nat → Nat → Int32)) {H : Heap} {locs : List Loc} {ls : Array Slot}, r = t → hW D cy ad b μ P (hmat cy a1 r2 (lPt ν) t) H → va_S (hA b) s.heap H locs → lv_has ls 6 [(0, .ref (la 0 0)), (2, .ref a1), (3, .int x3), (4, .int x4)] → W p l e ({ frames := 4, cells := 21, slots := 120, locals := 95 } : Room) s m args below meth c H locs CM SM (MQ below (hQ b (fun rv H => ∃ a r, rv = some (.ref a) ∧ hW D cy ad b μ P (hmat cy a r (lPt ν) RES) H)) args s 21 120 (hA b)) (F0 m 218 ls []))  : ∀ (n : Nat) (x5 : Int32) (z0 : Nat → Nat → Int32) {cells slots : Nat}, cells + n * 0 ≤ CM → slots + n * 0 ≤ SM → gloop (fun t => b_L_distances_173 x3 x4 t.1 t.2 ν μ) n (x5, z0) = some r → ∀ {H : Heap} {locs : List Loc} {ls : Array Slot}, hW D cy ad b μ P (hmat cy a1 r2 (lPt ν) z0) H → va_S (hA b) s.heap H locs → lv_has ls 6 [(0, .ref (la 0 0)), (2, .ref a1), (3, .int x3), (4, .int x4), (5, .int x5)] → W p l e ({ frames := 4, cells := 21, slots := 120, locals := 95 } : Room) s m args below meth c H locs cells slots (MQ below (hQ b (fun rv H => ∃ a r, rv = some (.ref a) ∧ hW D cy ad b μ P (hmat cy a r (lPt ν) RES) H)) args s 21 120 (hA b)) (F0 m 173 ls []) := by
  intro n
  induction n with
  | zero =>
    intro x5 z0 cells slots hc hs h
    exact (gloop_0 h).elim
  | succ n ih =>
    intro x5 z0 cells slots hc hs h H locs ls hM hS hl
    obtain ⟨o, h0, hcc, hq⟩ := gloop_s h
    have h1 : b_L_distances_173 x3 x4 x5 z0 ν μ = some o := h0
    exact wb_L_distances_173 (C0 := cells + 0) (S0 := slots + 0) (CM := CM) (SM := SM) h1 F E hY  (by omega) (by omega) (by omega) (by omega) hcr hsr (fun t H locs ls ho hM hS hl => ih t.1 t.2 (by omega) (by omega) (hcc t ho) hM hS hl) (fun t H locs ls ho hM hS hl => kx t (hq _ ho).symm hM hS hl) hM hS hl
def b_L_distances_161 (x3 : Int32) (x4 : Int32) (z0 : Nat → Nat → Int32) (ν μ : gM) : Option ((Int32 × (Nat → Nat → Int32)) ⊕ ((Nat → Nat → Int32))) :=
  if ((gi ν 0 1) ≤ x4) then some (.inr z0) else Option.bind (gloop (fun t => b_L_distances_173 x3 x4 t.1 t.2 ν μ) 9 ((0 : Int32), z0)) (fun q39 => some (.inl ((x4 + (1 : Int32)), q39)))
set_option maxHeartbeats 4000000 in
set_option maxRecDepth 100000 in
theorem wb_L_distances_161 {p : Program} {l : Launch} {e : Env} {s : State} {m : MethodId} {args : Array Value} {below : List Frame} {meth : Method} {c : Code} {D : va_G} {cy : Nat → ClassId} {ad : Nat → Nat} {b : Nat} {la : Nat → Nat → Nat} {ν : gM} {P : va_W} {x3 : Int32} {x4 : Int32} {z0 : Nat → Nat → Int32} {μ : gM} {a1 : Nat} {r2 : Nat → Nat} {o : (Int32 × (Nat → Nat → Int32)) ⊕ ((Nat → Nat → Int32))} {RES : Nat → Nat → Int32} {cells slots C0 S0 CM SM : Nat} (h : b_L_distances_161 x3 x4 z0 ν μ = some o) (F : gF p s m meth c cX8_distances RX8 6 (some (.array (.array .int)))) (E : hE l D cy ad b s) (hY : lY cy ad la ν P) (hc : cells + 0 ≤ C0) (hs : slots + 0 ≤ S0) (hcm : C0 ≤ CM) (hsm : S0 ≤ SM) (hcr : CM ≤ 21) (hsr : SM ≤ 120) (kc : ∀ (t : Int32 × (Nat → Nat → Int32)) {H : Heap} {locs : List Loc} {ls : Array Slot}, o = .inl t → hW D cy ad b μ P (hmat cy a1 r2 (lPt ν) t.2) H → va_S (hA b) s.heap H locs → lv_has ls 6 [(0, .ref (la 0 0)), (2, .ref a1), (3, .int x3), (4, .int t.1)] → W p l e ({ frames := 4, cells := 21, slots := 120, locals := 95 } : Room) s m args below meth c H locs C0 S0 (MQ below (hQ b (fun rv H => ∃ a r, rv = some (.ref a) ∧ hW D cy ad b μ P (hmat cy a r (lPt ν) RES) H)) args s 21 120 (hA b)) (F0 m 161 ls [])) (kx : ∀ (t : (Nat → Nat → Int32)) {H : Heap} {locs : List Loc} {ls : Array Slot}, o = .inr t → hW D cy ad b μ P (hmat cy a1 r2 (lPt ν) t) H → va_S (hA b) s.heap H locs → lv_has ls 6 [(0, .ref (la 0 0)), (2, .ref a1), (3, .int x3)] → W p l e ({ frames := 4, cells := 21, slots := 120, locals := 95 } : Room) s m args below meth c H locs CM SM (MQ below (hQ b (fun rv H => ∃ a r, rv = some (.ref a) ∧ hW D cy ad b μ P (hmat cy a r (lPt ν) RES) H)) args s 21 120 (hA b)) (F0 m 224 ls []))  {H : Heap} {locs : List Loc} {ls : Array Slot} (hM : hW D cy ad b μ P (hmat cy a1 r2 (lPt ν) z0) H) (hS : va_S (hA b) s.heap H locs) (hl : lv_has ls 6 [(0, .ref (la 0 0)), (2, .ref a1), (3, .int x3), (4, .int x4)]) : W p l e ({ frames := 4, cells := 21, slots := 120, locals := 95 } : Room) s m args below meth c H locs cells slots (MQ below (hQ b (fun rv H => ∃ a r, rv = some (.ref a) ∧ hW D cy ad b μ P (hmat cy a r (lPt ν) RES) H)) args s 21 120 (hA b)) (F0 m 161 ls []) := by
  obtain ⟨hx, hb, hml, hown, hlocks, hr⟩ := id F
  unfold b_L_distances_161 at h
  refine lv_iload hx hb dX8_distances_161 (lv_at hl 3 rfl) ?_
  refine lv_aload_n hx hb dX8_distances_163 rfl (lv_at hl 0 rfl) ?_
  refine h_get hx hb hown E hM (hp_m (hY.c1 0 rfl)) gC_X8 1 (by decide) (v := .int (gi ν 0 1)) rfl kw_1025 dX8_distances_164 ?_
  refine lv_icmp_ge (tgt := 224) hx hb dX8_distances_167 (by decide) (fun c29 => ?_) (fun c29 => ?_)
  · replace h := gif_t c29 h
    refine W.widen (k := CM) (n := SM) (by omega) (by omega) ?_
    exact kx _ (Option.some.inj h).symm hM hS (lv_sub hl [0, 1, 2] rfl)
  · replace h := gif_f c29 h
    refine lv_iconst (v := (0 : Int32)) hx hb dX8_distances_170 (by decide) ?_
    refine lv_istore (lv' := [(5, .int (0 : Int32)), (0, .ref (la 0 0)), (2, .ref a1), (3, .int x3), (4, .int x4)]) hx hb dX8_distances_171 hl (by decide) rfl (fun ls hl => ?_)
    obtain ⟨z40, h1, h⟩ := gbind_e h
    refine wl_L_distances_173 (CM := cells + 0) (SM := slots + 0) F E hY  (by omega) (by omega) (r := z40) (fun q39 H locs ls e1 hM hS hl => ?_) 9 (0 : Int32) z0 (by omega) (by omega) h1 hM hS (lv_sub hl [1, 2, 3, 4, 0] rfl)
    replace e1 : z40 = q39 := e1
    rw [e1] at h
    refine lv_iinc (v := (x4 + (1 : Int32))) (lv' := [(4, .int (x4 + (1 : Int32))), (0, .ref (la 0 0)), (2, .ref a1), (3, .int x3)]) hx hb dX8_distances_218 hl (k := 3) rfl rfl (by decide) rfl (fun ls hl => ?_)
    refine lv_goto (tgt := 161) hx hb dX8_distances_221 (by decide) ?_
    refine W.widen (k := C0) (n := S0) (by omega) (by omega) ?_
    exact kc _ (Option.some.inj h).symm hM hS (lv_sub hl [1, 2, 3, 0] rfl)
set_option maxHeartbeats 4000000 in
theorem wl_L_distances_161 {p : Program} {l : Launch} {e : Env} {s : State} {m : MethodId} {args : Array Value} {below : List Frame} {meth : Method} {c : Code} {D : va_G} {cy : Nat → ClassId} {ad : Nat → Nat} {b : Nat} {la : Nat → Nat → Nat} {ν : gM} {P : va_W} {x3 : Int32}  {μ : gM} {a1 : Nat} {r2 : Nat → Nat} {r : (Nat → Nat → Int32)} {RES : Nat → Nat → Int32} {CM SM : Nat} (F : gF p s m meth c cX8_distances RX8 6 (some (.array (.array .int)))) (E : hE l D cy ad b s) (hY : lY cy ad la ν P) (hcr : CM ≤ 21) (hsr : SM ≤ 120) (kx : ∀ (t : (Nat → Nat → Int32)) {H : Heap} {locs : List Loc} {ls : Array Slot}, r = t → hW D cy ad b μ P (hmat cy a1 r2 (lPt ν) t) H → va_S (hA b) s.heap H locs → lv_has ls 6 [(0, .ref (la 0 0)), (2, .ref a1), (3, .int x3)] → W p l e ({ frames := 4, cells := 21, slots := 120, locals := 95 } : Room) s m args below meth c H locs CM SM (MQ below (hQ b (fun rv H => ∃ a r, rv = some (.ref a) ∧ hW D cy ad b μ P (hmat cy a r (lPt ν) RES) H)) args s 21 120 (hA b)) (F0 m 224 ls []))  : ∀ (n : Nat) (x4 : Int32) (z0 : Nat → Nat → Int32) {cells slots : Nat}, cells + n * 0 ≤ CM → slots + n * 0 ≤ SM → gloop (fun t => b_L_distances_161 x3 t.1 t.2 ν μ) n (x4, z0) = some r → ∀ {H : Heap} {locs : List Loc} {ls : Array Slot}, hW D cy ad b μ P (hmat cy a1 r2 (lPt ν) z0) H → va_S (hA b) s.heap H locs → lv_has ls 6 [(0, .ref (la 0 0)), (2, .ref a1), (3, .int x3), (4, .int x4)] → W p l e ({ frames := 4, cells := 21, slots := 120, locals := 95 } : Room) s m args below meth c H locs cells slots (MQ below (hQ b (fun rv H => ∃ a r, rv = some (.ref a) ∧ hW D cy ad b μ P (hmat cy a r (lPt ν) RES) H)) args s 21 120 (hA b)) (F0 m 161 ls []) := by
  intro n
  induction n with
  | zero =>
    intro x4 z0 cells slots hc hs h
    exact (gloop_0 h).elim
  | succ n ih =>
    intro x4 z0 cells slots hc hs h H locs ls hM hS hl
    obtain ⟨o, h0, hcc, hq⟩ := gloop_s h
    have h1 : b_L_distances_161 x3 x4 z0 ν μ = some o := h0
    exact wb_L_distances_161 (C0 := cells + 0) (S0 := slots + 0) (CM := CM) (SM := SM) h1 F E hY  (by omega) (by omega) (by omega) (by omega) hcr hsr (fun t H locs ls ho hM hS hl => ih t.1 t.2 (by omega) (by omega) (hcc t ho) hM hS hl) (fun t H locs ls ho hM hS hl => kx t (hq _ ho).symm hM hS hl) hM hS hl
def b_L_distances_150 (x3 : Int32) (z0 : Nat → Nat → Int32) (ν μ : gM) : Option ((Int32 × (Nat → Nat → Int32)) ⊕ ((Nat → Nat → Int32))) :=
  if ((gi ν 0 1) ≤ x3) then some (.inr z0) else Option.bind (gloop (fun t => b_L_distances_161 x3 t.1 t.2 ν μ) 9 ((0 : Int32), z0)) (fun q41 => some (.inl ((x3 + (1 : Int32)), q41)))
set_option maxHeartbeats 4000000 in
set_option maxRecDepth 100000 in
theorem wb_L_distances_150 {p : Program} {l : Launch} {e : Env} {s : State} {m : MethodId} {args : Array Value} {below : List Frame} {meth : Method} {c : Code} {D : va_G} {cy : Nat → ClassId} {ad : Nat → Nat} {b : Nat} {la : Nat → Nat → Nat} {ν : gM} {P : va_W} {x3 : Int32} {z0 : Nat → Nat → Int32} {μ : gM} {a1 : Nat} {r2 : Nat → Nat} {o : (Int32 × (Nat → Nat → Int32)) ⊕ ((Nat → Nat → Int32))} {RES : Nat → Nat → Int32} {cells slots C0 S0 CM SM : Nat} (h : b_L_distances_150 x3 z0 ν μ = some o) (F : gF p s m meth c cX8_distances RX8 6 (some (.array (.array .int)))) (E : hE l D cy ad b s) (hY : lY cy ad la ν P) (hc : cells + 0 ≤ C0) (hs : slots + 0 ≤ S0) (hcm : C0 ≤ CM) (hsm : S0 ≤ SM) (hcr : CM ≤ 21) (hsr : SM ≤ 120) (kc : ∀ (t : Int32 × (Nat → Nat → Int32)) {H : Heap} {locs : List Loc} {ls : Array Slot}, o = .inl t → hW D cy ad b μ P (hmat cy a1 r2 (lPt ν) t.2) H → va_S (hA b) s.heap H locs → lv_has ls 6 [(0, .ref (la 0 0)), (2, .ref a1), (3, .int t.1)] → W p l e ({ frames := 4, cells := 21, slots := 120, locals := 95 } : Room) s m args below meth c H locs C0 S0 (MQ below (hQ b (fun rv H => ∃ a r, rv = some (.ref a) ∧ hW D cy ad b μ P (hmat cy a r (lPt ν) RES) H)) args s 21 120 (hA b)) (F0 m 150 ls [])) (kx : ∀ (t : (Nat → Nat → Int32)) {H : Heap} {locs : List Loc} {ls : Array Slot}, o = .inr t → hW D cy ad b μ P (hmat cy a1 r2 (lPt ν) t) H → va_S (hA b) s.heap H locs → lv_has ls 6 [(2, .ref a1)] → W p l e ({ frames := 4, cells := 21, slots := 120, locals := 95 } : Room) s m args below meth c H locs CM SM (MQ below (hQ b (fun rv H => ∃ a r, rv = some (.ref a) ∧ hW D cy ad b μ P (hmat cy a r (lPt ν) RES) H)) args s 21 120 (hA b)) (F0 m 230 ls []))  {H : Heap} {locs : List Loc} {ls : Array Slot} (hM : hW D cy ad b μ P (hmat cy a1 r2 (lPt ν) z0) H) (hS : va_S (hA b) s.heap H locs) (hl : lv_has ls 6 [(0, .ref (la 0 0)), (2, .ref a1), (3, .int x3)]) : W p l e ({ frames := 4, cells := 21, slots := 120, locals := 95 } : Room) s m args below meth c H locs cells slots (MQ below (hQ b (fun rv H => ∃ a r, rv = some (.ref a) ∧ hW D cy ad b μ P (hmat cy a r (lPt ν) RES) H)) args s 21 120 (hA b)) (F0 m 150 ls []) := by
  obtain ⟨hx, hb, hml, hown, hlocks, hr⟩ := id F
  unfold b_L_distances_150 at h
  refine lv_iload_n hx hb dX8_distances_150 rfl (lv_at hl 2 rfl) ?_
  refine lv_aload_n hx hb dX8_distances_151 rfl (lv_at hl 0 rfl) ?_
  refine h_get hx hb hown E hM (hp_m (hY.c1 0 rfl)) gC_X8 1 (by decide) (v := .int (gi ν 0 1)) rfl kw_1025 dX8_distances_152 ?_
  refine lv_icmp_ge (tgt := 230) hx hb dX8_distances_155 (by decide) (fun c28 => ?_) (fun c28 => ?_)
  · replace h := gif_t c28 h
    refine W.widen (k := CM) (n := SM) (by omega) (by omega) ?_
    exact kx _ (Option.some.inj h).symm hM hS (lv_sub hl [1] rfl)
  · replace h := gif_f c28 h
    refine lv_iconst (v := (0 : Int32)) hx hb dX8_distances_158 (by decide) ?_
    refine lv_istore (lv' := [(4, .int (0 : Int32)), (0, .ref (la 0 0)), (2, .ref a1), (3, .int x3)]) hx hb dX8_distances_159 hl (by decide) rfl (fun ls hl => ?_)
    obtain ⟨z42, h1, h⟩ := gbind_e h
    refine wl_L_distances_161 (CM := cells + 0) (SM := slots + 0) F E hY  (by omega) (by omega) (r := z42) (fun q41 H locs ls e1 hM hS hl => ?_) 9 (0 : Int32) z0 (by omega) (by omega) h1 hM hS (lv_sub hl [1, 2, 3, 0] rfl)
    replace e1 : z42 = q41 := e1
    rw [e1] at h
    refine lv_iinc (v := (x3 + (1 : Int32))) (lv' := [(3, .int (x3 + (1 : Int32))), (0, .ref (la 0 0)), (2, .ref a1)]) hx hb dX8_distances_224 hl (k := 2) rfl rfl (by decide) rfl (fun ls hl => ?_)
    refine lv_goto (tgt := 150) hx hb dX8_distances_227 (by decide) ?_
    refine W.widen (k := C0) (n := S0) (by omega) (by omega) ?_
    exact kc _ (Option.some.inj h).symm hM hS (lv_sub hl [1, 2, 0] rfl)
set_option maxHeartbeats 4000000 in
theorem wl_L_distances_150 {p : Program} {l : Launch} {e : Env} {s : State} {m : MethodId} {args : Array Value} {below : List Frame} {meth : Method} {c : Code} {D : va_G} {cy : Nat → ClassId} {ad : Nat → Nat} {b : Nat} {la : Nat → Nat → Nat} {ν : gM} {P : va_W}   {μ : gM} {a1 : Nat} {r2 : Nat → Nat} {r : (Nat → Nat → Int32)} {RES : Nat → Nat → Int32} {CM SM : Nat} (F : gF p s m meth c cX8_distances RX8 6 (some (.array (.array .int)))) (E : hE l D cy ad b s) (hY : lY cy ad la ν P) (hcr : CM ≤ 21) (hsr : SM ≤ 120) (kx : ∀ (t : (Nat → Nat → Int32)) {H : Heap} {locs : List Loc} {ls : Array Slot}, r = t → hW D cy ad b μ P (hmat cy a1 r2 (lPt ν) t) H → va_S (hA b) s.heap H locs → lv_has ls 6 [(2, .ref a1)] → W p l e ({ frames := 4, cells := 21, slots := 120, locals := 95 } : Room) s m args below meth c H locs CM SM (MQ below (hQ b (fun rv H => ∃ a r, rv = some (.ref a) ∧ hW D cy ad b μ P (hmat cy a r (lPt ν) RES) H)) args s 21 120 (hA b)) (F0 m 230 ls []))  : ∀ (n : Nat) (x3 : Int32) (z0 : Nat → Nat → Int32) {cells slots : Nat}, cells + n * 0 ≤ CM → slots + n * 0 ≤ SM → gloop (fun t => b_L_distances_150  t.1 t.2 ν μ) n (x3, z0) = some r → ∀ {H : Heap} {locs : List Loc} {ls : Array Slot}, hW D cy ad b μ P (hmat cy a1 r2 (lPt ν) z0) H → va_S (hA b) s.heap H locs → lv_has ls 6 [(0, .ref (la 0 0)), (2, .ref a1), (3, .int x3)] → W p l e ({ frames := 4, cells := 21, slots := 120, locals := 95 } : Room) s m args below meth c H locs cells slots (MQ below (hQ b (fun rv H => ∃ a r, rv = some (.ref a) ∧ hW D cy ad b μ P (hmat cy a r (lPt ν) RES) H)) args s 21 120 (hA b)) (F0 m 150 ls []) := by
  intro n
  induction n with
  | zero =>
    intro x3 z0 cells slots hc hs h
    exact (gloop_0 h).elim
  | succ n ih =>
    intro x3 z0 cells slots hc hs h H locs ls hM hS hl
    obtain ⟨o, h0, hcc, hq⟩ := gloop_s h
    have h1 : b_L_distances_150 x3 z0 ν μ = some o := h0
    exact wb_L_distances_150 (C0 := cells + 0) (S0 := slots + 0) (CM := CM) (SM := SM) h1 F E hY  (by omega) (by omega) (by omega) (by omega) hcr hsr (fun t H locs ls ho hM hS hl => ih t.1 t.2 (by omega) (by omega) (hcc t ho) hM hS hl) (fun t H locs ls ho hM hS hl => kx t (hq _ ho).symm hM hS hl) hM hS hl
def f_L_distances (p1 : Int32) (ν μ : gM) : Option (Nat → Nat → Int32) :=
  Option.bind (gloop (fun t => b_L_distances_15 p1 t.1 t.2 ν μ) 9 ((0 : Int32), (fun _ _ => 0))) (fun q11 => Option.bind (gloop (fun t => b_L_distances_67 p1 t.1 t.2 ν μ) 12 ((0 : Int32), q11)) (fun q27 => Option.bind (gloop (fun t => b_L_distances_150  t.1 t.2 ν μ) 9 ((0 : Int32), q27)) (fun q43 => some q43)))
set_option maxHeartbeats 4000000 in
set_option maxRecDepth 100000 in
theorem c_L_distances {l : Launch} {D : va_G} {cy : Nat → ClassId} {ad : Nat → Nat} {b : Nat} {la : Nat → Nat → Nat} {μ ν : gM} {P : va_W} {p1 : Int32} {RES : Nat → Nat → Int32} (hY : lY cy ad la ν P) (h : f_L_distances p1 ν μ = some RES) : Met l yX8_distances [.code yX8_distances cX8_distances 6 (some (.array (.array .int)))] ({ frames := 4, cells := 21, slots := 120, locals := 95 } : Room) (va_Pc [.ref (la 0 0), .int p1] (hB l D cy ad b μ P [])) (hQ b (fun rv H => ∃ a r, rv = some (.ref a) ∧ hW D cy ad b μ P (hmat cy a r (lPt ν) RES) H)) 21 120 (hA b) := by
  refine Met.ofW (cc := cX8_distances) (maxL := 6) (ret := (some (.array (.array .int)))) (by decide +kernel) rfl ?_
  intro p e s m args below meth c s₁ B hml0 hv
  obtain ⟨rfl, E, hM⟩ := hv
  have F : gF p s m meth c cX8_distances RX8 6 (some (.array (.array .int))) := gF_of B hml0
  obtain ⟨hx, hb, hml, hown, hlocks, hr⟩ := id F
  have hS : va_S (hA b) s.heap s.heap [] := va_S.rf
  have hl := lv_entry ([.ref (la 0 0), .int p1]) (n := 6) (Nat.le_of_ble_eq_true rfl)
  rw [lg_entry_eq]
  generalize (lg_sl ([.ref (la 0 0), .int p1]) ++ List.replicate (6 - (lg_sl ([.ref (la 0 0), .int p1])).length) Slot.unset).toArray = ls at hl ⊢
  have hl : lv_has ls 6 [(0, .ref (la 0 0)), (1, .int p1)] := hl
  unfold f_L_distances at h
  refine lv_aload_n hx hb dX8_distances_0 rfl (lv_at hl 0 rfl) ?_
  refine h_get hx hb hown E hM (hp_m (hY.c1 0 rfl)) gC_X8 1 (by decide) (v := .int (gi ν 0 1)) rfl kw_1025 dX8_distances_1 ?_
  refine lv_aload_n hx hb dX8_distances_4 rfl (lv_at hl 0 rfl) ?_
  refine h_get hx hb hown E hM (hp_m (hY.c1 0 rfl)) gC_X8 1 (by decide) (v := .int (gi ν 0 1)) rfl kw_1025 dX8_distances_5 ?_
  rw [hY.2.2.1.2]
  refine l_mna hx hb hown E hM hS hY.2.2.1.1 kw_547 E.2.1.2.2.2.2.1 (show _ ≤ 21 by omega) (show _ ≤ 120 by omega) dX8_distances_8 (fun a1 r2 H hM hS => ?_)
  refine lv_astore_n (lv' := [(2, .ref a1), (0, .ref (la 0 0)), (1, .int p1)]) hx hb dX8_distances_12 rfl hl (by decide) rfl (fun ls hl => ?_)
  refine lv_iconst (v := (0 : Int32)) hx hb dX8_distances_13 (by decide) ?_
  refine lv_istore_n (lv' := [(3, .int (0 : Int32)), (2, .ref a1), (0, .ref (la 0 0)), (1, .int p1)]) hx hb dX8_distances_14 rfl hl (by decide) rfl (fun ls hl => ?_)
  obtain ⟨z46, h1, h⟩ := gbind_e h
  refine wl_L_distances_15 (CM := 9) (SM := 72) F E hY  (by omega) (by omega) (r := z46) (fun q11 H locs ls e1 hM hS hl => ?_) 9 (0 : Int32) (fun _ _ => 0) (by omega) (by omega) h1 hM hS (lv_sub hl [2, 3, 1, 0] rfl)
  replace e1 : z46 = q11 := e1
  rw [e1] at h
  refine lv_iconst (v := (0 : Int32)) hx hb dX8_distances_65 (by decide) ?_
  refine lv_istore_n (lv' := [(3, .int (0 : Int32)), (0, .ref (la 0 0)), (1, .int p1), (2, .ref a1)]) hx hb dX8_distances_66 rfl hl (by decide) rfl (fun ls hl => ?_)
  obtain ⟨z45, h1, h⟩ := gbind_e h
  refine wl_L_distances_67 (CM := 21) (SM := 120) F E hY  (by omega) (by omega) (r := z45) (fun q27 H locs ls e1 hM hS hl => ?_) 12 (0 : Int32) q11 (by omega) (by omega) h1 hM hS (lv_sub hl [1, 2, 3, 0] rfl)
  replace e1 : z45 = q27 := e1
  rw [e1] at h
  refine lv_iconst (v := (0 : Int32)) hx hb dX8_distances_148 (by decide) ?_
  refine lv_istore_n (lv' := [(3, .int (0 : Int32)), (0, .ref (la 0 0)), (2, .ref a1)]) hx hb dX8_distances_149 rfl hl (by decide) rfl (fun ls hl => ?_)
  obtain ⟨z44, h1, h⟩ := gbind_e h
  refine wl_L_distances_150 (CM := 21) (SM := 120) F E hY  (by omega) (by omega) (r := z44) (fun q43 H locs ls e1 hM hS hl => ?_) 9 (0 : Int32) q27 (by omega) (by omega) h1 hM hS (lv_sub hl [1, 2, 0] rfl)
  replace e1 : z44 = q43 := e1
  rw [e1] at h
  refine lv_aload_n hx hb dX8_distances_230 rfl (lv_at hl 0 rfl) ?_
  obtain rfl := Option.some.inj h
  exact h_aret hx hb hr (Or.inr ⟨_, rfl⟩) hlocks (by omega) (by omega) ⟨_, _, rfl, hM⟩ hS dX8_distances_231

theorem xy_X8_rise : gYV yX8_rise cX8_rise 5 (some .int) 1 := ⟨kw_1149, kw_50, kw_1148, kw_28, ⟨by decide +kernel, by decide +kernel⟩, by decide +kernel⟩
theorem xy_Jx4a65c_size_8abf5 : gYV yJx4a65c_size_8abf5 cJx4a65c_size_8abf5 1 (some .int) 0 := ⟨kw_1215, kw_61, kw_1213, kw_1214, ⟨by decide +kernel, by decide +kernel⟩, by decide +kernel⟩
theorem dX8_areLines_0 : decode cX8_areLines 0 = .ok (.iconst 0, 1) := by decide +kernel
theorem dX8_areLines_1 : decode cX8_areLines 1 = .ok (.istore_n 1, 1) := by decide +kernel
theorem dX8_areLines_2 : decode cX8_areLines 2 = .ok (.iload_n 1, 1) := by decide +kernel
theorem dX8_areLines_3 : decode cX8_areLines 3 = .ok (.aload_n 0, 1) := by decide +kernel
theorem dX8_areLines_4 : decode cX8_areLines 4 = .ok (.getfield 47, 3) := by decide +kernel
theorem dX8_areLines_7 : decode cX8_areLines 7 = .ok (.if_icmp .ge 210, 3) := by decide +kernel
theorem dX8_areLines_10 : decode cX8_areLines 10 = .ok (.aload_n 0, 1) := by decide +kernel
theorem dX8_areLines_11 : decode cX8_areLines 11 = .ok (.getfield 12, 3) := by decide +kernel
theorem dX8_areLines_14 : decode cX8_areLines 14 = .ok (.iload_n 1, 1) := by decide +kernel
theorem dX8_areLines_15 : decode cX8_areLines 15 = .ok (.invokevirtual 162, 3) := by decide +kernel
theorem dX8_areLines_18 : decode cX8_areLines 18 = .ok (.aload_n 0, 1) := by decide +kernel
theorem dX8_areLines_19 : decode cX8_areLines 19 = .ok (.iload_n 1, 1) := by decide +kernel
theorem dX8_areLines_20 : decode cX8_areLines 20 = .ok (.invokevirtual 165, 3) := by decide +kernel
theorem dX8_areLines_23 : decode cX8_areLines 23 = .ok (.if_icmp .ne 67, 3) := by decide +kernel
theorem dX8_areLines_26 : decode cX8_areLines 26 = .ok (.aload_n 0, 1) := by decide +kernel
theorem dX8_areLines_27 : decode cX8_areLines 27 = .ok (.getfield 12, 3) := by decide +kernel
theorem dX8_areLines_30 : decode cX8_areLines 30 = .ok (.iload_n 1, 1) := by decide +kernel
theorem dX8_areLines_31 : decode cX8_areLines 31 = .ok (.iconst 5, 1) := by decide +kernel
theorem dX8_areLines_32 : decode cX8_areLines 32 = .ok (.invokevirtual 168, 3) := by decide +kernel
theorem dX8_areLines_35 : decode cX8_areLines 35 = .ok (.aload_n 0, 1) := by decide +kernel
theorem dX8_areLines_36 : decode cX8_areLines 36 = .ok (.iload_n 1, 1) := by decide +kernel
theorem dX8_areLines_37 : decode cX8_areLines 37 = .ok (.invokevirtual 157, 3) := by decide +kernel
theorem dX8_areLines_40 : decode cX8_areLines 40 = .ok (.if_icmp .ne 50, 3) := by decide +kernel
theorem dX8_areLines_43 : decode cX8_areLines 43 = .ok (.aload_n 0, 1) := by decide +kernel
theorem dX8_areLines_44 : decode cX8_areLines 44 = .ok (.getfield 12, 3) := by decide +kernel
theorem dX8_areLines_47 : decode cX8_areLines 47 = .ok (.iload_n 1, 1) := by decide +kernel
theorem dX8_areLines_48 : decode cX8_areLines 48 = .ok (.bipush 6, 2) := by decide +kernel
theorem dX8_areLines_50 : decode cX8_areLines 50 = .ok (.invokevirtual 168, 3) := by decide +kernel
theorem dX8_areLines_53 : decode cX8_areLines 53 = .ok (.ldc 156, 2) := by decide +kernel
theorem dX8_areLines_55 : decode cX8_areLines 55 = .ok (.aload_n 0, 1) := by decide +kernel
theorem dX8_areLines_56 : decode cX8_areLines 56 = .ok (.iload_n 1, 1) := by decide +kernel
theorem dX8_areLines_57 : decode cX8_areLines 57 = .ok (.invokevirtual 157, 3) := by decide +kernel
theorem dX8_areLines_60 : decode cX8_areLines 60 = .ok (.idiv, 1) := by decide +kernel
theorem dX8_areLines_61 : decode cX8_areLines 61 = .ok (.if_icmp .ne 29, 3) := by decide +kernel
theorem dX8_areLines_64 : decode cX8_areLines 64 = .ok (.aload_n 0, 1) := by decide +kernel
theorem dX8_areLines_65 : decode cX8_areLines 65 = .ok (.getfield 12, 3) := by decide +kernel
theorem dX8_areLines_68 : decode cX8_areLines 68 = .ok (.iload_n 1, 1) := by decide +kernel
theorem dX8_areLines_69 : decode cX8_areLines 69 = .ok (.iconst 3, 1) := by decide +kernel
theorem dX8_areLines_70 : decode cX8_areLines 70 = .ok (.invokevirtual 168, 3) := by decide +kernel
theorem dX8_areLines_73 : decode cX8_areLines 73 = .ok (.aload_n 0, 1) := by decide +kernel
theorem dX8_areLines_74 : decode cX8_areLines 74 = .ok (.getfield 28, 3) := by decide +kernel
theorem dX8_areLines_77 : decode cX8_areLines 77 = .ok (.iload_n 1, 1) := by decide +kernel
theorem dX8_areLines_78 : decode cX8_areLines 78 = .ok (.invokevirtual 129, 3) := by decide +kernel
theorem dX8_areLines_81 : decode cX8_areLines 81 = .ok (.checkcast 25, 3) := by decide +kernel
theorem dX8_areLines_84 : decode cX8_areLines 84 = .ok (.invokevirtual 171, 3) := by decide +kernel
theorem dX8_areLines_87 : decode cX8_areLines 87 = .ok (.if_icmp .eq 5, 3) := by decide +kernel
theorem dX8_areLines_90 : decode cX8_areLines 90 = .ok (.iconst 0, 1) := by decide +kernel
theorem dX8_areLines_91 : decode cX8_areLines 91 = .ok (.ireturn, 1) := by decide +kernel
theorem dX8_areLines_92 : decode cX8_areLines 92 = .ok (.aload_n 0, 1) := by decide +kernel
theorem dX8_areLines_93 : decode cX8_areLines 93 = .ok (.getfield 12, 3) := by decide +kernel
theorem dX8_areLines_96 : decode cX8_areLines 96 = .ok (.iload_n 1, 1) := by decide +kernel
theorem dX8_areLines_97 : decode cX8_areLines 97 = .ok (.iconst 0, 1) := by decide +kernel
theorem dX8_areLines_98 : decode cX8_areLines 98 = .ok (.invokevirtual 168, 3) := by decide +kernel
theorem dX8_areLines_101 : decode cX8_areLines 101 = .ok (.aload_n 0, 1) := by decide +kernel
theorem dX8_areLines_102 : decode cX8_areLines 102 = .ok (.getfield 52, 3) := by decide +kernel
theorem dX8_areLines_105 : decode cX8_areLines 105 = .ok (.iload_n 1, 1) := by decide +kernel
theorem dX8_areLines_106 : decode cX8_areLines 106 = .ok (.aaload, 1) := by decide +kernel
theorem dX8_areLines_107 : decode cX8_areLines 107 = .ok (.iconst 0, 1) := by decide +kernel
theorem dX8_areLines_108 : decode cX8_areLines 108 = .ok (.iaload, 1) := by decide +kernel
theorem dX8_areLines_109 : decode cX8_areLines 109 = .ok (.if_icmp .ne 49, 3) := by decide +kernel
theorem dX8_areLines_112 : decode cX8_areLines 112 = .ok (.aload_n 0, 1) := by decide +kernel
theorem dX8_areLines_113 : decode cX8_areLines 113 = .ok (.getfield 12, 3) := by decide +kernel
theorem dX8_areLines_116 : decode cX8_areLines 116 = .ok (.iload_n 1, 1) := by decide +kernel
theorem dX8_areLines_117 : decode cX8_areLines 117 = .ok (.iconst 1, 1) := by decide +kernel
theorem dX8_areLines_118 : decode cX8_areLines 118 = .ok (.invokevirtual 168, 3) := by decide +kernel
theorem dX8_areLines_121 : decode cX8_areLines 121 = .ok (.aload_n 0, 1) := by decide +kernel
theorem dX8_areLines_122 : decode cX8_areLines 122 = .ok (.getfield 52, 3) := by decide +kernel
theorem dX8_areLines_125 : decode cX8_areLines 125 = .ok (.iload_n 1, 1) := by decide +kernel
theorem dX8_areLines_126 : decode cX8_areLines 126 = .ok (.aaload, 1) := by decide +kernel
theorem dX8_areLines_127 : decode cX8_areLines 127 = .ok (.iconst 1, 1) := by decide +kernel
theorem dX8_areLines_128 : decode cX8_areLines 128 = .ok (.iaload, 1) := by decide +kernel
theorem dX8_areLines_129 : decode cX8_areLines 129 = .ok (.if_icmp .ne 29, 3) := by decide +kernel
theorem dX8_areLines_132 : decode cX8_areLines 132 = .ok (.aload_n 0, 1) := by decide +kernel
theorem dX8_areLines_133 : decode cX8_areLines 133 = .ok (.getfield 12, 3) := by decide +kernel
theorem dX8_areLines_136 : decode cX8_areLines 136 = .ok (.iload_n 1, 1) := by decide +kernel
theorem dX8_areLines_137 : decode cX8_areLines 137 = .ok (.iconst 4, 1) := by decide +kernel
theorem dX8_areLines_138 : decode cX8_areLines 138 = .ok (.invokevirtual 168, 3) := by decide +kernel
theorem dX8_areLines_141 : decode cX8_areLines 141 = .ok (.aload_n 0, 1) := by decide +kernel
theorem dX8_areLines_142 : decode cX8_areLines 142 = .ok (.getfield 58, 3) := by decide +kernel
theorem dX8_areLines_145 : decode cX8_areLines 145 = .ok (.iload_n 1, 1) := by decide +kernel
theorem dX8_areLines_146 : decode cX8_areLines 146 = .ok (.baload, 1) := by decide +kernel
theorem dX8_areLines_147 : decode cX8_areLines 147 = .ok (.ifCond .eq 7, 3) := by decide +kernel
theorem dX8_areLines_150 : decode cX8_areLines 150 = .ok (.iconst 1, 1) := by decide +kernel
theorem dX8_areLines_151 : decode cX8_areLines 151 = .ok (.goto 4, 3) := by decide +kernel
theorem dX8_areLines_154 : decode cX8_areLines 154 = .ok (.iconst 0, 1) := by decide +kernel
theorem dX8_areLines_155 : decode cX8_areLines 155 = .ok (.if_icmp .eq 5, 3) := by decide +kernel
theorem dX8_areLines_158 : decode cX8_areLines 158 = .ok (.iconst 0, 1) := by decide +kernel
theorem dX8_areLines_159 : decode cX8_areLines 159 = .ok (.ireturn, 1) := by decide +kernel
theorem dX8_areLines_160 : decode cX8_areLines 160 = .ok (.iconst 0, 1) := by decide +kernel
theorem dX8_areLines_161 : decode cX8_areLines 161 = .ok (.istore_n 2, 1) := by decide +kernel
theorem dX8_areLines_162 : decode cX8_areLines 162 = .ok (.iconst 0, 1) := by decide +kernel
theorem dX8_areLines_163 : decode cX8_areLines 163 = .ok (.istore_n 3, 1) := by decide +kernel
theorem dX8_areLines_164 : decode cX8_areLines 164 = .ok (.iload_n 3, 1) := by decide +kernel
theorem dX8_areLines_165 : decode cX8_areLines 165 = .ok (.aload_n 0, 1) := by decide +kernel
theorem dX8_areLines_166 : decode cX8_areLines 166 = .ok (.getfield 28, 3) := by decide +kernel
theorem dX8_areLines_169 : decode cX8_areLines 169 = .ok (.iload_n 1, 1) := by decide +kernel
theorem dX8_areLines_170 : decode cX8_areLines 170 = .ok (.invokevirtual 129, 3) := by decide +kernel
theorem dX8_areLines_173 : decode cX8_areLines 173 = .ok (.checkcast 25, 3) := by decide +kernel
theorem dX8_areLines_176 : decode cX8_areLines 176 = .ok (.invokevirtual 171, 3) := by decide +kernel
theorem dX8_areLines_179 : decode cX8_areLines 179 = .ok (.if_icmp .ge 21, 3) := by decide +kernel
theorem dX8_areLines_182 : decode cX8_areLines 182 = .ok (.iload_n 2, 1) := by decide +kernel
theorem dX8_areLines_183 : decode cX8_areLines 183 = .ok (.aload_n 0, 1) := by decide +kernel
theorem dX8_areLines_184 : decode cX8_areLines 184 = .ok (.getfield 12, 3) := by decide +kernel
theorem dX8_areLines_187 : decode cX8_areLines 187 = .ok (.iload_n 1, 1) := by decide +kernel
theorem dX8_areLines_188 : decode cX8_areLines 188 = .ok (.iload_n 3, 1) := by decide +kernel
theorem dX8_areLines_189 : decode cX8_areLines 189 = .ok (.invokevirtual 174, 3) := by decide +kernel
theorem dX8_areLines_192 : decode cX8_areLines 192 = .ok (.iadd, 1) := by decide +kernel
theorem dX8_areLines_193 : decode cX8_areLines 193 = .ok (.istore_n 2, 1) := by decide +kernel
theorem dX8_areLines_194 : decode cX8_areLines 194 = .ok (.iinc 3 1, 3) := by decide +kernel
theorem dX8_areLines_197 : decode cX8_areLines 197 = .ok (.goto (-33), 3) := by decide +kernel
theorem dX8_areLines_200 : decode cX8_areLines 200 = .ok (.iload_n 2, 1) := by decide +kernel
theorem dX8_areLines_201 : decode cX8_areLines 201 = .ok (.aload_n 0, 1) := by decide +kernel
theorem dX8_areLines_202 : decode cX8_areLines 202 = .ok (.iload_n 1, 1) := by decide +kernel
theorem dX8_areLines_203 : decode cX8_areLines 203 = .ok (.invokevirtual 165, 3) := by decide +kernel
theorem dX8_areLines_206 : decode cX8_areLines 206 = .ok (.if_icmp .eq 5, 3) := by decide +kernel
theorem dX8_areLines_209 : decode cX8_areLines 209 = .ok (.iconst 0, 1) := by decide +kernel
theorem dX8_areLines_210 : decode cX8_areLines 210 = .ok (.ireturn, 1) := by decide +kernel
theorem dX8_areLines_211 : decode cX8_areLines 211 = .ok (.iinc 1 1, 3) := by decide +kernel
theorem dX8_areLines_214 : decode cX8_areLines 214 = .ok (.goto (-212), 3) := by decide +kernel
theorem dX8_areLines_217 : decode cX8_areLines 217 = .ok (.iconst 1, 1) := by decide +kernel
theorem dX8_areLines_218 : decode cX8_areLines 218 = .ok (.ireturn, 1) := by decide +kernel
def b_L_areLines_164 (x1 : Int32) (x2 : Int32) (x3 : Int32) (ν μ : gM) : Option ((Int32 × Int32) ⊕ (Int32)) :=
  gchk (gIn x1 (lLn ν)) (if ((nI (lSz ν x1.toNatClampNeg)) ≤ x3) then some (.inr x2) else Option.bind (f_X7_stepOf x1 x3 μ) (fun q28 => some (.inl ((x2 + q28), (x3 + (1 : Int32))))))
set_option maxHeartbeats 4000000 in
set_option maxRecDepth 100000 in
theorem wb_L_areLines_164 {p : Program} {l : Launch} {e : Env} {s : State} {m : MethodId} {args : Array Value} {below : List Frame} {meth : Method} {c : Code} {D : va_G} {cy : Nat → ClassId} {ad : Nat → Nat} {b : Nat} {la : Nat → Nat → Nat} {ν : gM} {P P0 : va_W} {x1 : Int32} {x2 : Int32} {x3 : Int32} {μ : gM}  {o : (Int32 × Int32) ⊕ (Int32)} {RES : (Bool) × gM} {cells slots C0 S0 CM SM : Nat} (h : b_L_areLines_164 x1 x2 x3 ν μ = some o) (F : gF p s m meth c cX8_areLines RX8 4 (some .boolean)) (E : hE l D cy ad b s) (hY : lY cy ad la ν P) (hPd : ∀ (μ : gM) (H : Heap), hW D cy ad b μ P [] H → hW D cy ad b μ P0 [] H) (hc : cells + 0 ≤ C0) (hs : slots + 0 ≤ S0) (hcm : C0 ≤ CM) (hsm : S0 ≤ SM) (hcr : CM ≤ 48) (hsr : SM ≤ 192) (kc : ∀ (t : Int32 × Int32) {H : Heap} {locs : List Loc} {ls : Array Slot}, o = .inl t → hW D cy ad b μ P [] H → va_S (hA b) s.heap H locs → lv_has ls 4 [(0, .ref (la 0 0)), (1, .int x1), (2, .int t.1), (3, .int t.2)] → W p l e ({ frames := 4, cells := 48, slots := 192, locals := 95 } : Room) s m args below meth c H locs C0 S0 (MQ below (hQ b (fun rv H => rv = some (.int (b2i RES.1)) ∧ hW D cy ad b RES.2 P0 [] H)) args s 48 192 (hA b)) (F0 m 164 ls [])) (kx : ∀ (t : Int32) {H : Heap} {locs : List Loc} {ls : Array Slot}, o = .inr t → hW D cy ad b μ P [] H → va_S (hA b) s.heap H locs → lv_has ls 4 [(0, .ref (la 0 0)), (1, .int x1), (2, .int t)] → W p l e ({ frames := 4, cells := 48, slots := 192, locals := 95 } : Room) s m args below meth c H locs CM SM (MQ below (hQ b (fun rv H => rv = some (.int (b2i RES.1)) ∧ hW D cy ad b RES.2 P0 [] H)) args s 48 192 (hA b)) (F0 m 200 ls []))  {H : Heap} {locs : List Loc} {ls : Array Slot} (hM : hW D cy ad b μ P [] H) (hS : va_S (hA b) s.heap H locs) (hl : lv_has ls 4 [(0, .ref (la 0 0)), (1, .int x1), (2, .int x2), (3, .int x3)]) : W p l e ({ frames := 4, cells := 48, slots := 192, locals := 95 } : Room) s m args below meth c H locs cells slots (MQ below (hQ b (fun rv H => rv = some (.int (b2i RES.1)) ∧ hW D cy ad b RES.2 P0 [] H)) args s 48 192 (hA b)) (F0 m 164 ls []) := by
  obtain ⟨hx, hb, hml, hown, hlocks, hr⟩ := id F
  unfold b_L_areLines_164 at h
  refine lv_iload_n hx hb dX8_areLines_164 rfl (lv_at hl 3 rfl) ?_
  refine lv_aload_n hx hb dX8_areLines_165 rfl (lv_at hl 0 rfl) ?_
  refine h_get hx hb hown E hM (hp_m (hY.c1 0 rfl)) gC_X8 8 (by decide) (v := .ref (la 6 0)) rfl kw_1032 dX8_areLines_166 ?_
  refine lv_iload_n hx hb dX8_areLines_169 rfl (lv_at hl 1 rfl) ?_
  obtain ⟨c26, h⟩ := gchk_e h
  refine h_callV (As := [.int x1]) (rest := [.int x3]) hx hb (hml.trans hl.1.symm) hown E hM hS xy_Jx4a65c_get_915e3 kw_870 (cl_get hY c26) (hp_m (hY.c1 6 rfl)) gC_Jx4a65c.1 rfl rfl (Nat.le_of_ble_eq_true rfl) ⟨(Nat.le_of_ble_eq_true rfl), (Nat.le_of_ble_eq_true rfl)⟩ ⟨(show _ ≤ 48 by omega), (show _ ≤ 192 by omega)⟩ dX8_areLines_170 (fun rv H locs hZ hS => ?_)
  obtain ⟨rfl, hM⟩ := hZ
  refine h_castY hx hb hown E hM (hp_m (hY.c2 c26.2 1 rfl)) gC_Jx4a65c kw_511 dX8_areLines_173 ?_
  refine h_callV (As := []) (rest := [.int x3]) hx hb (hml.trans hl.1.symm) hown E hM hS xy_Jx4a65c_size_8abf5 kw_1212 (cl_size hY c26.2) (hp_m (hY.c2 c26.2 1 rfl)) gC_Jx4a65c.1 rfl rfl (Nat.le_of_ble_eq_true rfl) ⟨(Nat.le_of_ble_eq_true rfl), (Nat.le_of_ble_eq_true rfl)⟩ ⟨(show _ ≤ 48 by omega), (show _ ≤ 192 by omega)⟩ dX8_areLines_176 (fun rv H locs hZ hS => ?_)
  obtain ⟨rfl, hM⟩ := hZ
  refine lv_icmp_ge (tgt := 200) hx hb dX8_areLines_179 (by decide) (fun c27 => ?_) (fun c27 => ?_)
  · replace h := gif_t c27 h
    refine W.widen (k := CM) (n := SM) (by omega) (by omega) ?_
    exact kx _ (Option.some.inj h).symm hM hS (lv_sub hl [0, 1, 2] rfl)
  · replace h := gif_f c27 h
    refine lv_iload_n hx hb dX8_areLines_182 rfl (lv_at hl 2 rfl) ?_
    refine lv_aload_n hx hb dX8_areLines_183 rfl (lv_at hl 0 rfl) ?_
    refine h_get hx hb hown E hM (hp_m (hY.c1 0 rfl)) gC_X8 0 (by decide) (v := .ref (ad 0)) rfl kw_1023 dX8_areLines_184 ?_
    refine lv_iload_n hx hb dX8_areLines_187 rfl (lv_at hl 1 rfl) ?_
    refine lv_iload_n hx hb dX8_areLines_188 rfl (lv_at hl 3 rfl) ?_
    obtain ⟨q28, hq28, h⟩ := gbind_e h
    refine h_callC (As := [.int x1, .int x3]) (rest := [.int x2]) hx hb (hml.trans hl.1.symm) hown E hM hS hy_X7_stepOf kw_1216 (c_X7_stepOf hq28) hk_0 dd_0 rfl rfl rfl (Nat.le_of_ble_eq_true rfl) ⟨(Nat.le_of_ble_eq_true rfl), (Nat.le_of_ble_eq_true rfl)⟩ ⟨(show _ ≤ 48 by omega), (show _ ≤ 192 by omega)⟩ dX8_areLines_189 (fun H locs hM hS => ?_)
    refine lv_iadd hx hb dX8_areLines_192 ?_
    refine lv_istore_n (lv' := [(2, .int (x2 + q28)), (0, .ref (la 0 0)), (1, .int x1), (3, .int x3)]) hx hb dX8_areLines_193 rfl hl (by decide) rfl (fun ls hl => ?_)
    refine lv_iinc (v := (x3 + (1 : Int32))) (lv' := [(3, .int (x3 + (1 : Int32))), (2, .int (x2 + q28)), (0, .ref (la 0 0)), (1, .int x1)]) hx hb dX8_areLines_194 hl (k := 3) rfl rfl (by decide) rfl (fun ls hl => ?_)
    refine lv_goto (tgt := 164) hx hb dX8_areLines_197 (by decide) ?_
    refine W.widen (k := C0) (n := S0) (by omega) (by omega) ?_
    exact kc _ (Option.some.inj h).symm hM hS (lv_sub hl [2, 3, 1, 0] rfl)
set_option maxHeartbeats 4000000 in
theorem wl_L_areLines_164 {p : Program} {l : Launch} {e : Env} {s : State} {m : MethodId} {args : Array Value} {below : List Frame} {meth : Method} {c : Code} {D : va_G} {cy : Nat → ClassId} {ad : Nat → Nat} {b : Nat} {la : Nat → Nat → Nat} {ν : gM} {P P0 : va_W} {x1 : Int32}  {μ : gM}  {r : Int32} {RES : (Bool) × gM} {CM SM : Nat} (F : gF p s m meth c cX8_areLines RX8 4 (some .boolean)) (E : hE l D cy ad b s) (hY : lY cy ad la ν P) (hPd : ∀ (μ : gM) (H : Heap), hW D cy ad b μ P [] H → hW D cy ad b μ P0 [] H) (hcr : CM ≤ 48) (hsr : SM ≤ 192) (kx : ∀ (t : Int32) {H : Heap} {locs : List Loc} {ls : Array Slot}, r = t → hW D cy ad b μ P [] H → va_S (hA b) s.heap H locs → lv_has ls 4 [(0, .ref (la 0 0)), (1, .int x1), (2, .int t)] → W p l e ({ frames := 4, cells := 48, slots := 192, locals := 95 } : Room) s m args below meth c H locs CM SM (MQ below (hQ b (fun rv H => rv = some (.int (b2i RES.1)) ∧ hW D cy ad b RES.2 P0 [] H)) args s 48 192 (hA b)) (F0 m 200 ls []))  : ∀ (n : Nat) (x2 : Int32) (x3 : Int32)  {cells slots : Nat}, cells + n * 0 ≤ CM → slots + n * 0 ≤ SM → gloop (fun t => b_L_areLines_164 x1 t.1 t.2 ν μ) n (x2, x3) = some r → ∀ {H : Heap} {locs : List Loc} {ls : Array Slot}, hW D cy ad b μ P [] H → va_S (hA b) s.heap H locs → lv_has ls 4 [(0, .ref (la 0 0)), (1, .int x1), (2, .int x2), (3, .int x3)] → W p l e ({ frames := 4, cells := 48, slots := 192, locals := 95 } : Room) s m args below meth c H locs cells slots (MQ below (hQ b (fun rv H => rv = some (.int (b2i RES.1)) ∧ hW D cy ad b RES.2 P0 [] H)) args s 48 192 (hA b)) (F0 m 164 ls []) := by
  intro n
  induction n with
  | zero =>
    intro x2 x3 cells slots hc hs h
    exact (gloop_0 h).elim
  | succ n ih =>
    intro x2 x3 cells slots hc hs h H locs ls hM hS hl
    obtain ⟨o, h0, hcc, hq⟩ := gloop_s h
    have h1 : b_L_areLines_164 x1 x2 x3 ν μ = some o := h0
    exact wb_L_areLines_164 (C0 := cells + 0) (S0 := slots + 0) (CM := CM) (SM := SM) h1 F E hY hPd  (by omega) (by omega) (by omega) (by omega) hcr hsr (fun t H locs ls ho hM hS hl => ih t.1 t.2 (by omega) (by omega) (hcc t ho) hM hS hl) (fun t H locs ls ho hM hS hl => kx t (hq _ ho).symm hM hS hl) hM hS hl
def j_L_areLines_155 (x1 : Int32) (y0 : Int32) (y1 : Int32) (ν μ : gM) : Option ((Int32) ⊕ ((Unit) ⊕ ((Bool) × gM))) :=
  if (y0 = y1) then Option.bind (gloop (fun t => b_L_areLines_164 x1 t.1 t.2 ν μ) 9 ((0 : Int32), (0 : Int32))) (fun q29 => Option.bind (f_L_rise x1 ν μ) (fun q30 => if (q29 = q30) then some (.inl (x1 + (1 : Int32))) else some (.inr (.inr (false, μ))))) else some (.inr (.inr (false, μ)))
set_option maxHeartbeats 4000000 in
set_option maxRecDepth 100000 in
theorem wj_L_areLines_155 {p : Program} {l : Launch} {e : Env} {s : State} {m : MethodId} {args : Array Value} {below : List Frame} {meth : Method} {c : Code} {D : va_G} {cy : Nat → ClassId} {ad : Nat → Nat} {b : Nat} {la : Nat → Nat → Nat} {ν : gM} {P P0 : va_W} {x1 : Int32} {y0 : Int32} {y1 : Int32} {μ : gM}  {o : (Int32) ⊕ ((Unit) ⊕ ((Bool) × gM))} {RES : (Bool) × gM} {cells slots C0 S0 CM SM : Nat} (h : j_L_areLines_155 x1 y0 y1 ν μ = some o) (F : gF p s m meth c cX8_areLines RX8 4 (some .boolean)) (E : hE l D cy ad b s) (hY : lY cy ad la ν P) (hPd : ∀ (μ : gM) (H : Heap), hW D cy ad b μ P [] H → hW D cy ad b μ P0 [] H) (hc : cells + 1 ≤ C0) (hs : slots + 4 ≤ S0) (hcm : C0 ≤ CM) (hsm : S0 ≤ SM) (hcr : CM ≤ 48) (hsr : SM ≤ 192) (kc : ∀ (t : Int32) {H : Heap} {locs : List Loc} {ls : Array Slot}, o = .inl t → hW D cy ad b μ P [] H → va_S (hA b) s.heap H locs → lv_has ls 4 [(0, .ref (la 0 0)), (1, .int t)] → W p l e ({ frames := 4, cells := 48, slots := 192, locals := 95 } : Room) s m args below meth c H locs C0 S0 (MQ below (hQ b (fun rv H => rv = some (.int (b2i RES.1)) ∧ hW D cy ad b RES.2 P0 [] H)) args s 48 192 (hA b)) (F0 m 2 ls [])) (kx : ∀ (t : Unit) {H : Heap} {locs : List Loc} {ls : Array Slot}, o = .inr (.inl t) → hW D cy ad b μ P [] H → va_S (hA b) s.heap H locs → lv_has ls 4 [] → W p l e ({ frames := 4, cells := 48, slots := 192, locals := 95 } : Room) s m args below meth c H locs CM SM (MQ below (hQ b (fun rv H => rv = some (.int (b2i RES.1)) ∧ hW D cy ad b RES.2 P0 [] H)) args s 48 192 (hA b)) (F0 m 217 ls [])) (kr : ∀ x : (Bool) × gM, o = .inr (.inr x) → x = RES) {H : Heap} {locs : List Loc} {ls : Array Slot} (hM : hW D cy ad b μ P [] H) (hS : va_S (hA b) s.heap H locs) (hl : lv_has ls 4 [(0, .ref (la 0 0)), (1, .int x1)]) : W p l e ({ frames := 4, cells := 48, slots := 192, locals := 95 } : Room) s m args below meth c H locs cells slots (MQ below (hQ b (fun rv H => rv = some (.int (b2i RES.1)) ∧ hW D cy ad b RES.2 P0 [] H)) args s 48 192 (hA b)) (F0 m 155 ls [.int y1, .int y0]) := by
  obtain ⟨hx, hb, hml, hown, hlocks, hr⟩ := id F
  unfold j_L_areLines_155 at h
  refine lv_icmp_eq (tgt := 160) hx hb dX8_areLines_155 (by decide) (fun c25 => ?_) (fun c25 => ?_)
  · replace h := gif_t c25 h
    refine lv_iconst (v := (0 : Int32)) hx hb dX8_areLines_160 (by decide) ?_
    refine lv_istore_n (lv' := [(2, .int (0 : Int32)), (0, .ref (la 0 0)), (1, .int x1)]) hx hb dX8_areLines_161 rfl hl (by decide) rfl (fun ls hl => ?_)
    refine lv_iconst (v := (0 : Int32)) hx hb dX8_areLines_162 (by decide) ?_
    refine lv_istore_n (lv' := [(3, .int (0 : Int32)), (2, .int (0 : Int32)), (0, .ref (la 0 0)), (1, .int x1)]) hx hb dX8_areLines_163 rfl hl (by decide) rfl (fun ls hl => ?_)
    obtain ⟨z32, h1, h⟩ := gbind_e h
    refine wl_L_areLines_164 (CM := cells + 0) (SM := slots + 0) F E hY hPd  (by omega) (by omega) (r := z32) (fun q29 H locs ls e1 hM hS hl => ?_) 9 (0 : Int32) (0 : Int32) (by omega) (by omega) h1 hM hS (lv_sub hl [2, 3, 1, 0] rfl)
    replace e1 : z32 = q29 := e1
    rw [e1] at h
    refine lv_iload_n hx hb dX8_areLines_200 rfl (lv_at hl 2 rfl) ?_
    refine lv_aload_n hx hb dX8_areLines_201 rfl (lv_at hl 0 rfl) ?_
    refine lv_iload_n hx hb dX8_areLines_202 rfl (lv_at hl 1 rfl) ?_
    obtain ⟨q30, hq30, h⟩ := gbind_e h
    refine h_callV (As := [.int x1]) (rest := [.int q29]) hx hb (hml.trans hl.1.symm) hown E hM hS xy_X8_rise kw_1146 (c_L_rise hY hq30) (hp_m (hY.c1 0 rfl)) gC_X8.1 rfl rfl (Nat.le_of_ble_eq_true rfl) ⟨(Nat.le_of_ble_eq_true rfl), (Nat.le_of_ble_eq_true rfl)⟩ ⟨(show _ ≤ 48 by omega), (show _ ≤ 192 by omega)⟩ dX8_areLines_203 (fun rv H locs hZ hS => ?_)
    obtain ⟨rfl, hM⟩ := hZ
    refine lv_icmp_eq (tgt := 211) hx hb dX8_areLines_206 (by decide) (fun c31 => ?_) (fun c31 => ?_)
    · replace h := gif_t c31 h
      refine lv_iinc (v := (x1 + (1 : Int32))) (lv' := [(1, .int (x1 + (1 : Int32))), (0, .ref (la 0 0)), (2, .int q29)]) hx hb dX8_areLines_211 hl (k := 1) rfl rfl (by decide) rfl (fun ls hl => ?_)
      refine lv_goto (tgt := 2) hx hb dX8_areLines_214 (by decide) ?_
      refine W.widen (k := C0) (n := S0) (by omega) (by omega) ?_
      exact kc _ (Option.some.inj h).symm hM hS (lv_sub hl [1, 0] rfl)
    · replace h := gif_f c31 h
      refine lv_iconst (v := (0 : Int32)) hx hb dX8_areLines_209 (by decide) ?_
      obtain rfl := kr _ (Option.some.inj h).symm
      exact h_zret (v := b2i false) hx hb hr hlocks (by omega) (by omega) (b2i_nar false) ⟨rfl, hPd _ _ (hW.drop hM)⟩ hS dX8_areLines_210
  · replace h := gif_f c25 h
    refine lv_iconst (v := (0 : Int32)) hx hb dX8_areLines_158 (by decide) ?_
    obtain rfl := kr _ (Option.some.inj h).symm
    exact h_zret (v := b2i false) hx hb hr hlocks (by omega) (by omega) (b2i_nar false) ⟨rfl, hPd _ _ (hW.drop hM)⟩ hS dX8_areLines_159
def b_L_areLines_2 (x1 : Int32) (ν μ : gM) : Option ((Int32) ⊕ ((Unit) ⊕ ((Bool) × gM))) :=
  if ((gi ν 0 2) ≤ x1) then some (.inr (.inl ())) else Option.bind (f_X7_riseOf x1 μ) (fun q2 => Option.bind (f_L_rise x1 ν μ) (fun q3 => if (q2 = q3) then Option.bind (f_X7_lineProperty x1 (5 : Int32) μ) (fun q5 => Option.bind (f_L_length x1 ν μ) (fun q6 => if (q5 = q6) then Option.bind (f_X7_lineProperty x1 (6 : Int32) μ) (fun q8 => Option.bind (f_L_length x1 ν μ) (fun q9 => gchk (¬ q9 = 0) (if (q8 = ((1000000 : Int32) / q9)) then Option.bind (f_X7_lineProperty x1 (3 : Int32) μ) (fun q11 => gchk (gIn x1 (lLn ν)) (if (q11 = (nI (lSz ν x1.toNatClampNeg))) then Option.bind (f_X7_lineProperty x1 (0 : Int32) μ) (fun q14 => gchk (gIn x1 (lLn ν)) (if (q14 = (gi ν (20 + x1.toNatClampNeg) 0)) then Option.bind (f_X7_lineProperty x1 (1 : Int32) μ) (fun q18 => gchk (gIn x1 (lLn ν)) (if (q18 = (gi ν (20 + x1.toNatClampNeg) 1)) then Option.bind (f_X7_lineProperty x1 (4 : Int32) μ) (fun q22 => gchk (gIn x1 (lLn ν)) (if ((gi ν 5 x1.toNatClampNeg) = 0) then j_L_areLines_155 x1 q22 (0 : Int32) ν μ else j_L_areLines_155 x1 q22 (1 : Int32) ν μ)) else some (.inr (.inr (false, μ))))) else some (.inr (.inr (false, μ))))) else some (.inr (.inr (false, μ))))) else some (.inr (.inr (false, μ)))))) else some (.inr (.inr (false, μ))))) else some (.inr (.inr (false, μ)))))
set_option maxHeartbeats 4000000 in
set_option maxRecDepth 100000 in
theorem wb_L_areLines_2 {p : Program} {l : Launch} {e : Env} {s : State} {m : MethodId} {args : Array Value} {below : List Frame} {meth : Method} {c : Code} {D : va_G} {cy : Nat → ClassId} {ad : Nat → Nat} {b : Nat} {la : Nat → Nat → Nat} {ν : gM} {P P0 : va_W} {x1 : Int32} {μ : gM}  {o : (Int32) ⊕ ((Unit) ⊕ ((Bool) × gM))} {RES : (Bool) × gM} {cells slots C0 S0 CM SM : Nat} (h : b_L_areLines_2 x1 ν μ = some o) (F : gF p s m meth c cX8_areLines RX8 4 (some .boolean)) (E : hE l D cy ad b s) (hY : lY cy ad la ν P) (hPd : ∀ (μ : gM) (H : Heap), hW D cy ad b μ P [] H → hW D cy ad b μ P0 [] H) (hc : cells + 4 ≤ C0) (hs : slots + 16 ≤ S0) (hcm : C0 ≤ CM) (hsm : S0 ≤ SM) (hcr : CM ≤ 48) (hsr : SM ≤ 192) (kc : ∀ (t : Int32) {H : Heap} {locs : List Loc} {ls : Array Slot}, o = .inl t → hW D cy ad b μ P [] H → va_S (hA b) s.heap H locs → lv_has ls 4 [(0, .ref (la 0 0)), (1, .int t)] → W p l e ({ frames := 4, cells := 48, slots := 192, locals := 95 } : Room) s m args below meth c H locs C0 S0 (MQ below (hQ b (fun rv H => rv = some (.int (b2i RES.1)) ∧ hW D cy ad b RES.2 P0 [] H)) args s 48 192 (hA b)) (F0 m 2 ls [])) (kx : ∀ (t : Unit) {H : Heap} {locs : List Loc} {ls : Array Slot}, o = .inr (.inl t) → hW D cy ad b μ P [] H → va_S (hA b) s.heap H locs → lv_has ls 4 [] → W p l e ({ frames := 4, cells := 48, slots := 192, locals := 95 } : Room) s m args below meth c H locs CM SM (MQ below (hQ b (fun rv H => rv = some (.int (b2i RES.1)) ∧ hW D cy ad b RES.2 P0 [] H)) args s 48 192 (hA b)) (F0 m 217 ls [])) (kr : ∀ x : (Bool) × gM, o = .inr (.inr x) → x = RES) {H : Heap} {locs : List Loc} {ls : Array Slot} (hM : hW D cy ad b μ P [] H) (hS : va_S (hA b) s.heap H locs) (hl : lv_has ls 4 [(0, .ref (la 0 0)), (1, .int x1)]) : W p l e ({ frames := 4, cells := 48, slots := 192, locals := 95 } : Room) s m args below meth c H locs cells slots (MQ below (hQ b (fun rv H => rv = some (.int (b2i RES.1)) ∧ hW D cy ad b RES.2 P0 [] H)) args s 48 192 (hA b)) (F0 m 2 ls []) := by
  obtain ⟨hx, hb, hml, hown, hlocks, hr⟩ := id F
  unfold b_L_areLines_2 at h
  refine lv_iload_n hx hb dX8_areLines_2 rfl (lv_at hl 1 rfl) ?_
  refine lv_aload_n hx hb dX8_areLines_3 rfl (lv_at hl 0 rfl) ?_
  refine h_get hx hb hown E hM (hp_m (hY.c1 0 rfl)) gC_X8 2 (by decide) (v := .int (gi ν 0 2)) rfl kw_1026 dX8_areLines_4 ?_
  refine lv_icmp_ge (tgt := 217) hx hb dX8_areLines_7 (by decide) (fun c1 => ?_) (fun c1 => ?_)
  · replace h := gif_t c1 h
    refine W.widen (k := CM) (n := SM) (by omega) (by omega) ?_
    exact kx _ (Option.some.inj h).symm hM hS (lv_sub hl [] rfl)
  · replace h := gif_f c1 h
    refine lv_aload_n hx hb dX8_areLines_10 rfl (lv_at hl 0 rfl) ?_
    refine h_get hx hb hown E hM (hp_m (hY.c1 0 rfl)) gC_X8 0 (by decide) (v := .ref (ad 0)) rfl kw_1023 dX8_areLines_11 ?_
    refine lv_iload_n hx hb dX8_areLines_14 rfl (lv_at hl 1 rfl) ?_
    obtain ⟨q2, hq2, h⟩ := gbind_e h
    refine h_callC (As := [.int x1]) (rest := []) hx hb (hml.trans hl.1.symm) hown E hM hS hy_X7_riseOf kw_1070 (c_X7_riseOf hq2) hk_0 dd_0 rfl rfl rfl (Nat.le_of_ble_eq_true rfl) ⟨(Nat.le_of_ble_eq_true rfl), (Nat.le_of_ble_eq_true rfl)⟩ ⟨(show _ ≤ 48 by omega), (show _ ≤ 192 by omega)⟩ dX8_areLines_15 (fun H locs hM hS => ?_)
    refine lv_aload_n hx hb dX8_areLines_18 rfl (lv_at hl 0 rfl) ?_
    refine lv_iload_n hx hb dX8_areLines_19 rfl (lv_at hl 1 rfl) ?_
    obtain ⟨q3, hq3, h⟩ := gbind_e h
    refine h_callV (As := [.int x1]) (rest := [.int q2]) hx hb (hml.trans hl.1.symm) hown E hM hS xy_X8_rise kw_1146 (c_L_rise hY hq3) (hp_m (hY.c1 0 rfl)) gC_X8.1 rfl rfl (Nat.le_of_ble_eq_true rfl) ⟨(Nat.le_of_ble_eq_true rfl), (Nat.le_of_ble_eq_true rfl)⟩ ⟨(show _ ≤ 48 by omega), (show _ ≤ 192 by omega)⟩ dX8_areLines_20 (fun rv H locs hZ hS => ?_)
    obtain ⟨rfl, hM⟩ := hZ
    refine lv_icmp_ne (tgt := 90) hx hb dX8_areLines_23 (by decide) (fun c4 => ?_) (fun c4 => ?_)
    · replace h := gif_f c4 h
      refine lv_iconst (v := (0 : Int32)) hx hb dX8_areLines_90 (by decide) ?_
      obtain rfl := kr _ (Option.some.inj h).symm
      exact h_zret (v := b2i false) hx hb hr hlocks (by omega) (by omega) (b2i_nar false) ⟨rfl, hPd _ _ (hW.drop hM)⟩ hS dX8_areLines_91
    · replace h := gif_t c4 h
      refine lv_aload_n hx hb dX8_areLines_26 rfl (lv_at hl 0 rfl) ?_
      refine h_get hx hb hown E hM (hp_m (hY.c1 0 rfl)) gC_X8 0 (by decide) (v := .ref (ad 0)) rfl kw_1023 dX8_areLines_27 ?_
      refine lv_iload_n hx hb dX8_areLines_30 rfl (lv_at hl 1 rfl) ?_
      refine lv_iconst (v := (5 : Int32)) hx hb dX8_areLines_31 (by decide) ?_
      obtain ⟨q5, hq5, h⟩ := gbind_e h
      refine h_callC (As := [.int x1, .int (5 : Int32)]) (rest := []) hx hb (hml.trans hl.1.symm) hown E hM hS hy_X7_lineProperty kw_1197 (c_X7_lineProperty hq5) hk_0 dd_0 rfl rfl rfl (Nat.le_of_ble_eq_true rfl) ⟨(Nat.le_of_ble_eq_true rfl), (Nat.le_of_ble_eq_true rfl)⟩ ⟨(show _ ≤ 48 by omega), (show _ ≤ 192 by omega)⟩ dX8_areLines_32 (fun H locs hM hS => ?_)
      refine lv_aload_n hx hb dX8_areLines_35 rfl (lv_at hl 0 rfl) ?_
      refine lv_iload_n hx hb dX8_areLines_36 rfl (lv_at hl 1 rfl) ?_
      obtain ⟨q6, hq6, h⟩ := gbind_e h
      refine h_callV (As := [.int x1]) (rest := [.int q5]) hx hb (hml.trans hl.1.symm) hown E hM hS xy_X8_length kw_1207 (c_L_length hY hq6) (hp_m (hY.c1 0 rfl)) gC_X8.1 rfl rfl (Nat.le_of_ble_eq_true rfl) ⟨(Nat.le_of_ble_eq_true rfl), (Nat.le_of_ble_eq_true rfl)⟩ ⟨(show _ ≤ 48 by omega), (show _ ≤ 192 by omega)⟩ dX8_areLines_37 (fun rv H locs hZ hS => ?_)
      obtain ⟨rfl, hM⟩ := hZ
      refine lv_icmp_ne (tgt := 90) hx hb dX8_areLines_40 (by decide) (fun c7 => ?_) (fun c7 => ?_)
      · replace h := gif_f c7 h
        refine lv_iconst (v := (0 : Int32)) hx hb dX8_areLines_90 (by decide) ?_
        obtain rfl := kr _ (Option.some.inj h).symm
        exact h_zret (v := b2i false) hx hb hr hlocks (by omega) (by omega) (b2i_nar false) ⟨rfl, hPd _ _ (hW.drop hM)⟩ hS dX8_areLines_91
      · replace h := gif_t c7 h
        refine lv_aload_n hx hb dX8_areLines_43 rfl (lv_at hl 0 rfl) ?_
        refine h_get hx hb hown E hM (hp_m (hY.c1 0 rfl)) gC_X8 0 (by decide) (v := .ref (ad 0)) rfl kw_1023 dX8_areLines_44 ?_
        refine lv_iload_n hx hb dX8_areLines_47 rfl (lv_at hl 1 rfl) ?_
        refine lv_bipush (v := (6 : Int32)) hx hb dX8_areLines_48 (by decide) ?_
        obtain ⟨q8, hq8, h⟩ := gbind_e h
        refine h_callC (As := [.int x1, .int (6 : Int32)]) (rest := []) hx hb (hml.trans hl.1.symm) hown E hM hS hy_X7_lineProperty kw_1197 (c_X7_lineProperty hq8) hk_0 dd_0 rfl rfl rfl (Nat.le_of_ble_eq_true rfl) ⟨(Nat.le_of_ble_eq_true rfl), (Nat.le_of_ble_eq_true rfl)⟩ ⟨(show _ ≤ 48 by omega), (show _ ≤ 192 by omega)⟩ dX8_areLines_50 (fun H locs hM hS => ?_)
        refine lv_ldc hx hb hown (v := (1000000 : Int32)) (E.kw kw_1211) dX8_areLines_53 ?_
        refine lv_aload_n hx hb dX8_areLines_55 rfl (lv_at hl 0 rfl) ?_
        refine lv_iload_n hx hb dX8_areLines_56 rfl (lv_at hl 1 rfl) ?_
        obtain ⟨q9, hq9, h⟩ := gbind_e h
        refine h_callV (As := [.int x1]) (rest := [.int (1000000 : Int32), .int q8]) hx hb (hml.trans hl.1.symm) hown E hM hS xy_X8_length kw_1207 (c_L_length hY hq9) (hp_m (hY.c1 0 rfl)) gC_X8.1 rfl rfl (Nat.le_of_ble_eq_true rfl) ⟨(Nat.le_of_ble_eq_true rfl), (Nat.le_of_ble_eq_true rfl)⟩ ⟨(show _ ≤ 48 by omega), (show _ ≤ 192 by omega)⟩ dX8_areLines_57 (fun rv H locs hZ hS => ?_)
        obtain ⟨rfl, hM⟩ := hZ
        obtain ⟨c33, h⟩ := gchk_e h
        refine lv_idiv hx hb dX8_areLines_60 c33 ?_
        refine lv_icmp_ne (tgt := 90) hx hb dX8_areLines_61 (by decide) (fun c10 => ?_) (fun c10 => ?_)
        · replace h := gif_f c10 h
          refine lv_iconst (v := (0 : Int32)) hx hb dX8_areLines_90 (by decide) ?_
          obtain rfl := kr _ (Option.some.inj h).symm
          exact h_zret (v := b2i false) hx hb hr hlocks (by omega) (by omega) (b2i_nar false) ⟨rfl, hPd _ _ (hW.drop hM)⟩ hS dX8_areLines_91
        · replace h := gif_t c10 h
          refine lv_aload_n hx hb dX8_areLines_64 rfl (lv_at hl 0 rfl) ?_
          refine h_get hx hb hown E hM (hp_m (hY.c1 0 rfl)) gC_X8 0 (by decide) (v := .ref (ad 0)) rfl kw_1023 dX8_areLines_65 ?_
          refine lv_iload_n hx hb dX8_areLines_68 rfl (lv_at hl 1 rfl) ?_
          refine lv_iconst (v := (3 : Int32)) hx hb dX8_areLines_69 (by decide) ?_
          obtain ⟨q11, hq11, h⟩ := gbind_e h
          refine h_callC (As := [.int x1, .int (3 : Int32)]) (rest := []) hx hb (hml.trans hl.1.symm) hown E hM hS hy_X7_lineProperty kw_1197 (c_X7_lineProperty hq11) hk_0 dd_0 rfl rfl rfl (Nat.le_of_ble_eq_true rfl) ⟨(Nat.le_of_ble_eq_true rfl), (Nat.le_of_ble_eq_true rfl)⟩ ⟨(show _ ≤ 48 by omega), (show _ ≤ 192 by omega)⟩ dX8_areLines_70 (fun H locs hM hS => ?_)
          refine lv_aload_n hx hb dX8_areLines_73 rfl (lv_at hl 0 rfl) ?_
          refine h_get hx hb hown E hM (hp_m (hY.c1 0 rfl)) gC_X8 8 (by decide) (v := .ref (la 6 0)) rfl kw_1032 dX8_areLines_74 ?_
          refine lv_iload_n hx hb dX8_areLines_77 rfl (lv_at hl 1 rfl) ?_
          obtain ⟨c12, h⟩ := gchk_e h
          refine h_callV (As := [.int x1]) (rest := [.int q11]) hx hb (hml.trans hl.1.symm) hown E hM hS xy_Jx4a65c_get_915e3 kw_870 (cl_get hY c12) (hp_m (hY.c1 6 rfl)) gC_Jx4a65c.1 rfl rfl (Nat.le_of_ble_eq_true rfl) ⟨(Nat.le_of_ble_eq_true rfl), (Nat.le_of_ble_eq_true rfl)⟩ ⟨(show _ ≤ 48 by omega), (show _ ≤ 192 by omega)⟩ dX8_areLines_78 (fun rv H locs hZ hS => ?_)
          obtain ⟨rfl, hM⟩ := hZ
          refine h_castY hx hb hown E hM (hp_m (hY.c2 c12.2 1 rfl)) gC_Jx4a65c kw_511 dX8_areLines_81 ?_
          refine h_callV (As := []) (rest := [.int q11]) hx hb (hml.trans hl.1.symm) hown E hM hS xy_Jx4a65c_size_8abf5 kw_1212 (cl_size hY c12.2) (hp_m (hY.c2 c12.2 1 rfl)) gC_Jx4a65c.1 rfl rfl (Nat.le_of_ble_eq_true rfl) ⟨(Nat.le_of_ble_eq_true rfl), (Nat.le_of_ble_eq_true rfl)⟩ ⟨(show _ ≤ 48 by omega), (show _ ≤ 192 by omega)⟩ dX8_areLines_84 (fun rv H locs hZ hS => ?_)
          obtain ⟨rfl, hM⟩ := hZ
          refine lv_icmp_eq (tgt := 92) hx hb dX8_areLines_87 (by decide) (fun c13 => ?_) (fun c13 => ?_)
          · replace h := gif_t c13 h
            refine lv_aload_n hx hb dX8_areLines_92 rfl (lv_at hl 0 rfl) ?_
            refine h_get hx hb hown E hM (hp_m (hY.c1 0 rfl)) gC_X8 0 (by decide) (v := .ref (ad 0)) rfl kw_1023 dX8_areLines_93 ?_
            refine lv_iload_n hx hb dX8_areLines_96 rfl (lv_at hl 1 rfl) ?_
            refine lv_iconst (v := (0 : Int32)) hx hb dX8_areLines_97 (by decide) ?_
            obtain ⟨q14, hq14, h⟩ := gbind_e h
            refine h_callC (As := [.int x1, .int (0 : Int32)]) (rest := []) hx hb (hml.trans hl.1.symm) hown E hM hS hy_X7_lineProperty kw_1197 (c_X7_lineProperty hq14) hk_0 dd_0 rfl rfl rfl (Nat.le_of_ble_eq_true rfl) ⟨(Nat.le_of_ble_eq_true rfl), (Nat.le_of_ble_eq_true rfl)⟩ ⟨(show _ ≤ 48 by omega), (show _ ≤ 192 by omega)⟩ dX8_areLines_98 (fun H locs hM hS => ?_)
            refine lv_aload_n hx hb dX8_areLines_101 rfl (lv_at hl 0 rfl) ?_
            refine h_get hx hb hown E hM (hp_m (hY.c1 0 rfl)) gC_X8 5 (by decide) (v := .ref (la 3 0)) rfl kw_1029 dX8_areLines_102 ?_
            refine lv_iload_n hx hb dX8_areLines_105 rfl (lv_at hl 1 rfl) ?_
            obtain ⟨c15, h⟩ := gchk_e h
            refine h_rald hx hb E hM (hp_m (hY.c1 3 rfl)) c15 (v := .ref (la 20 x1.toNatClampNeg)) (x_lrf c15) dX8_areLines_106 ?_
            refine lv_iconst (v := (0 : Int32)) hx hb dX8_areLines_107 (by decide) ?_
            refine l_iald hx hb E hM (hp_m (hY.c2 c15.2 0 rfl)) (⟨by decide, by decide⟩ : gIn (0 : Int32) 2) (v := (gi ν (20 + x1.toNatClampNeg) 0)) (congrArg (ν.1 (20 + x1.toNatClampNeg)) (by decide : (0 : Int32).toNatClampNeg = 0)) dX8_areLines_108 ?_
            refine lv_icmp_ne (tgt := 158) hx hb dX8_areLines_109 (by decide) (fun c17 => ?_) (fun c17 => ?_)
            · replace h := gif_f c17 h
              refine lv_iconst (v := (0 : Int32)) hx hb dX8_areLines_158 (by decide) ?_
              obtain rfl := kr _ (Option.some.inj h).symm
              exact h_zret (v := b2i false) hx hb hr hlocks (by omega) (by omega) (b2i_nar false) ⟨rfl, hPd _ _ (hW.drop hM)⟩ hS dX8_areLines_159
            · replace h := gif_t c17 h
              refine lv_aload_n hx hb dX8_areLines_112 rfl (lv_at hl 0 rfl) ?_
              refine h_get hx hb hown E hM (hp_m (hY.c1 0 rfl)) gC_X8 0 (by decide) (v := .ref (ad 0)) rfl kw_1023 dX8_areLines_113 ?_
              refine lv_iload_n hx hb dX8_areLines_116 rfl (lv_at hl 1 rfl) ?_
              refine lv_iconst (v := (1 : Int32)) hx hb dX8_areLines_117 (by decide) ?_
              obtain ⟨q18, hq18, h⟩ := gbind_e h
              refine h_callC (As := [.int x1, .int (1 : Int32)]) (rest := []) hx hb (hml.trans hl.1.symm) hown E hM hS hy_X7_lineProperty kw_1197 (c_X7_lineProperty hq18) hk_0 dd_0 rfl rfl rfl (Nat.le_of_ble_eq_true rfl) ⟨(Nat.le_of_ble_eq_true rfl), (Nat.le_of_ble_eq_true rfl)⟩ ⟨(show _ ≤ 48 by omega), (show _ ≤ 192 by omega)⟩ dX8_areLines_118 (fun H locs hM hS => ?_)
              refine lv_aload_n hx hb dX8_areLines_121 rfl (lv_at hl 0 rfl) ?_
              refine h_get hx hb hown E hM (hp_m (hY.c1 0 rfl)) gC_X8 5 (by decide) (v := .ref (la 3 0)) rfl kw_1029 dX8_areLines_122 ?_
              refine lv_iload_n hx hb dX8_areLines_125 rfl (lv_at hl 1 rfl) ?_
              obtain ⟨c19, h⟩ := gchk_e h
              refine h_rald hx hb E hM (hp_m (hY.c1 3 rfl)) c19 (v := .ref (la 20 x1.toNatClampNeg)) (x_lrf c19) dX8_areLines_126 ?_
              refine lv_iconst (v := (1 : Int32)) hx hb dX8_areLines_127 (by decide) ?_
              refine l_iald hx hb E hM (hp_m (hY.c2 c19.2 0 rfl)) (⟨by decide, by decide⟩ : gIn (1 : Int32) 2) (v := (gi ν (20 + x1.toNatClampNeg) 1)) (congrArg (ν.1 (20 + x1.toNatClampNeg)) (by decide : (1 : Int32).toNatClampNeg = 1)) dX8_areLines_128 ?_
              refine lv_icmp_ne (tgt := 158) hx hb dX8_areLines_129 (by decide) (fun c21 => ?_) (fun c21 => ?_)
              · replace h := gif_f c21 h
                refine lv_iconst (v := (0 : Int32)) hx hb dX8_areLines_158 (by decide) ?_
                obtain rfl := kr _ (Option.some.inj h).symm
                exact h_zret (v := b2i false) hx hb hr hlocks (by omega) (by omega) (b2i_nar false) ⟨rfl, hPd _ _ (hW.drop hM)⟩ hS dX8_areLines_159
              · replace h := gif_t c21 h
                refine lv_aload_n hx hb dX8_areLines_132 rfl (lv_at hl 0 rfl) ?_
                refine h_get hx hb hown E hM (hp_m (hY.c1 0 rfl)) gC_X8 0 (by decide) (v := .ref (ad 0)) rfl kw_1023 dX8_areLines_133 ?_
                refine lv_iload_n hx hb dX8_areLines_136 rfl (lv_at hl 1 rfl) ?_
                refine lv_iconst (v := (4 : Int32)) hx hb dX8_areLines_137 (by decide) ?_
                obtain ⟨q22, hq22, h⟩ := gbind_e h
                refine h_callC (As := [.int x1, .int (4 : Int32)]) (rest := []) hx hb (hml.trans hl.1.symm) hown E hM hS hy_X7_lineProperty kw_1197 (c_X7_lineProperty hq22) hk_0 dd_0 rfl rfl rfl (Nat.le_of_ble_eq_true rfl) ⟨(Nat.le_of_ble_eq_true rfl), (Nat.le_of_ble_eq_true rfl)⟩ ⟨(show _ ≤ 48 by omega), (show _ ≤ 192 by omega)⟩ dX8_areLines_138 (fun H locs hM hS => ?_)
                refine lv_aload_n hx hb dX8_areLines_141 rfl (lv_at hl 0 rfl) ?_
                refine h_get hx hb hown E hM (hp_m (hY.c1 0 rfl)) gC_X8 7 (by decide) (v := .ref (la 5 0)) rfl kw_1031 dX8_areLines_142 ?_
                refine lv_iload_n hx hb dX8_areLines_145 rfl (lv_at hl 1 rfl) ?_
                obtain ⟨c23, h⟩ := gchk_e h
                refine l_zald hx hb E hM (hp_m (hY.c1 5 rfl)) c23 (v := (gi ν 5 x1.toNatClampNeg)) rfl dX8_areLines_146 ?_
                refine lv_if_eq (tgt := 154) hx hb dX8_areLines_147 (by decide) (fun c24 => ?_) (fun c24 => ?_)
                · replace h := gif_t c24 h
                  refine lv_iconst (v := (0 : Int32)) hx hb dX8_areLines_154 (by decide) ?_
                  exact wj_L_areLines_155 h F E hY hPd  (by omega) (by omega) hcm hsm hcr hsr kc kx kr hM hS hl
                · replace h := gif_f c24 h
                  refine lv_iconst (v := (1 : Int32)) hx hb dX8_areLines_150 (by decide) ?_
                  refine lv_goto (tgt := 155) hx hb dX8_areLines_151 (by decide) ?_
                  exact wj_L_areLines_155 h F E hY hPd  (by omega) (by omega) hcm hsm hcr hsr kc kx kr hM hS hl
          · replace h := gif_f c13 h
            refine lv_iconst (v := (0 : Int32)) hx hb dX8_areLines_90 (by decide) ?_
            obtain rfl := kr _ (Option.some.inj h).symm
            exact h_zret (v := b2i false) hx hb hr hlocks (by omega) (by omega) (b2i_nar false) ⟨rfl, hPd _ _ (hW.drop hM)⟩ hS dX8_areLines_91
set_option maxHeartbeats 4000000 in
theorem wl_L_areLines_2 {p : Program} {l : Launch} {e : Env} {s : State} {m : MethodId} {args : Array Value} {below : List Frame} {meth : Method} {c : Code} {D : va_G} {cy : Nat → ClassId} {ad : Nat → Nat} {b : Nat} {la : Nat → Nat → Nat} {ν : gM} {P P0 : va_W}   {μ : gM}  {r : (Unit) ⊕ ((Bool) × gM)} {RES : (Bool) × gM} {CM SM : Nat} (F : gF p s m meth c cX8_areLines RX8 4 (some .boolean)) (E : hE l D cy ad b s) (hY : lY cy ad la ν P) (hPd : ∀ (μ : gM) (H : Heap), hW D cy ad b μ P [] H → hW D cy ad b μ P0 [] H) (hcr : CM ≤ 48) (hsr : SM ≤ 192) (kx : ∀ (t : Unit) {H : Heap} {locs : List Loc} {ls : Array Slot}, r = .inl t → hW D cy ad b μ P [] H → va_S (hA b) s.heap H locs → lv_has ls 4 [] → W p l e ({ frames := 4, cells := 48, slots := 192, locals := 95 } : Room) s m args below meth c H locs CM SM (MQ below (hQ b (fun rv H => rv = some (.int (b2i RES.1)) ∧ hW D cy ad b RES.2 P0 [] H)) args s 48 192 (hA b)) (F0 m 217 ls [])) (kr : ∀ x : (Bool) × gM, r = .inr x → x = RES) : ∀ (n : Nat) (x1 : Int32)  {cells slots : Nat}, cells + n * 4 ≤ CM → slots + n * 16 ≤ SM → gloop (fun t => b_L_areLines_2  t ν μ) n x1 = some r → ∀ {H : Heap} {locs : List Loc} {ls : Array Slot}, hW D cy ad b μ P [] H → va_S (hA b) s.heap H locs → lv_has ls 4 [(0, .ref (la 0 0)), (1, .int x1)] → W p l e ({ frames := 4, cells := 48, slots := 192, locals := 95 } : Room) s m args below meth c H locs cells slots (MQ below (hQ b (fun rv H => rv = some (.int (b2i RES.1)) ∧ hW D cy ad b RES.2 P0 [] H)) args s 48 192 (hA b)) (F0 m 2 ls []) := by
  intro n
  induction n with
  | zero =>
    intro x1 cells slots hc hs h
    exact (gloop_0 h).elim
  | succ n ih =>
    intro x1 cells slots hc hs h H locs ls hM hS hl
    obtain ⟨o, h0, hcc, hq⟩ := gloop_s h
    have h1 : b_L_areLines_2 x1 ν μ = some o := h0
    exact wb_L_areLines_2 (C0 := cells + 4) (S0 := slots + 16) (CM := CM) (SM := SM) h1 F E hY hPd  (by omega) (by omega) (by omega) (by omega) hcr hsr (fun t H locs ls ho hM hS hl => ih t (by omega) (by omega) (hcc t ho) hM hS hl) (fun t H locs ls ho hM hS hl => kx t (hq _ ho).symm hM hS hl) (fun x ho => kr x (hq _ ho).symm) hM hS hl
def f_L_areLines  (ν μ : gM) : Option ((Bool) × gM) :=
  Option.bind (gloop (fun t => b_L_areLines_2  t ν μ) 12 (0 : Int32)) (fun q34 => Sum.elim (fun t35 => some (true, μ)) (fun x => some x) q34)
set_option maxHeartbeats 4000000 in
set_option maxRecDepth 100000 in
theorem c_L_areLines {l : Launch} {D : va_G} {cy : Nat → ClassId} {ad : Nat → Nat} {b : Nat} {la : Nat → Nat → Nat} {μ ν : gM} {P : va_W}  {RES : (Bool) × gM} (hY : lY cy ad la ν P) (h : f_L_areLines  ν μ = some RES) : Met l yX8_areLines [.code yX8_areLines cX8_areLines 4 (some .boolean)] ({ frames := 4, cells := 48, slots := 192, locals := 95 } : Room) (va_Pc [.ref (la 0 0)] (hB l D cy ad b μ P [])) (hQ b (fun rv H => rv = some (.int (b2i RES.1)) ∧ hW D cy ad b RES.2 P [] H)) 48 192 (hA b) := by
  refine Met.ofW (cc := cX8_areLines) (maxL := 4) (ret := (some .boolean)) (by decide +kernel) rfl ?_
  intro p e s m args below meth c s₁ B hml0 hv
  obtain ⟨rfl, E, hM⟩ := hv
  have F : gF p s m meth c cX8_areLines RX8 4 (some .boolean) := gF_of B hml0
  obtain ⟨hx, hb, hml, hown, hlocks, hr⟩ := id F
  have hS : va_S (hA b) s.heap s.heap [] := va_S.rf
  have hl := lv_entry ([.ref (la 0 0)]) (n := 4) (Nat.le_of_ble_eq_true rfl)
  rw [lg_entry_eq]
  generalize (lg_sl ([.ref (la 0 0)]) ++ List.replicate (4 - (lg_sl ([.ref (la 0 0)])).length) Slot.unset).toArray = ls at hl ⊢
  have hl : lv_has ls 4 [(0, .ref (la 0 0))] := hl
  unfold f_L_areLines at h
  refine lv_iconst (v := (0 : Int32)) hx hb dX8_areLines_0 (by decide) ?_
  refine lv_istore_n (lv' := [(1, .int (0 : Int32)), (0, .ref (la 0 0))]) hx hb dX8_areLines_1 rfl hl (by decide) rfl (fun ls hl => ?_)
  obtain ⟨q34, h1, h⟩ := gbind_e h
  refine wl_L_areLines_2 (CM := 48) (SM := 192) F E hY (fun _ _ h => h)  (by omega) (by omega) (r := q34) (fun t35 H locs ls e1 hM hS hl => ?_) (fun x ex => ?_) 12 (0 : Int32) (by omega) (by omega) h1 hM hS (lv_sub hl [1, 0] rfl)
  · replace h := gsum_l e1 h
    refine lv_iconst (v := (1 : Int32)) hx hb dX8_areLines_217 (by decide) ?_
    obtain rfl := Option.some.inj h
    exact h_zret (v := b2i true) hx hb hr hlocks (by omega) (by omega) (b2i_nar true) ⟨rfl, (fun _ _ h => h) _ _ (hW.drop hM)⟩ hS dX8_areLines_218
  · exact Option.some.inj (gsum_r ex h)

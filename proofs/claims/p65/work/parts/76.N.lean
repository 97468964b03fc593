/-! Net's constructor -/
theorem le_big {s a M R : Nat} (h : s + M ≤ R) (hab : Nat.ble a M = true) : s + a ≤ R := Nat.le_trans (Nat.add_le_add_left (Nat.le_of_ble_eq_true hab) s) h
theorem perm3 {α : Type} {A B C : List α} : ((A ++ B) ++ C).Perm ((A ++ C) ++ B) := by
  rw [List.append_assoc, List.append_assoc]
  exact List.Perm.append_left _ List.perm_append_comm
theorem lws_ad {cy : Nat → ClassId} {ad ad2 : Nat → Nat} {la : Nat → Nat → Nat} {ν : gM} (h0 : ad2 0 = ad 0) (h1 : ad2 461 = ad 461) : lws cy ad la ν = lws cy ad2 la ν := by
  unfold lws
  refine List.map_congr_left (fun q _ => ?_)
  unfold lcell lE lO
  rw [h0, h1]
theorem hE_cg {l : Launch} {D : va_G} {cy : Nat → ClassId} {ad ad2 : Nat → Nat} {b : Nat} {s : State} (E : hE l D cy ad b s) (had : ∀ k, 60 ≤ k → ad2 k = ad k) : hE l D cy ad2 b s := by
  obtain ⟨⟨e1, e2, e3, e4⟩, hN9, hz9, hZ9⟩ := E
  refine ⟨⟨e1, e2, fun i hi => ?_, e4⟩, hN9, hz9, ?_⟩
  · have h := e3 i hi
    unfold gStA at h ⊢
    rw [had (100 + i) (by omega)]
    exact h
  · have f1 : (fun j => ad2 (200 + j)) = (fun j => ad (200 + j)) := funext fun j => had _ (by omega)
    have f2 : (fun j => ad2 (470 + j)) = (fun j => ad (470 + j)) := funext fun j => had _ (by omega)
    have f3 : (fun j => ad2 (480 + j)) = (fun j => ad (480 + j)) := funext fun j => had _ (by omega)
    have f4 : (fun j => Int32.ofNat (ad2 (10000 + j))) = (fun j => Int32.ofNat (ad (10000 + j))) := funext fun j => by rw [had _ (by omega)]
    have f5 : (fun j => Value.ref (ad2 (200 + j))) = (fun j => Value.ref (ad (200 + j))) := funext fun j => by rw [had _ (by omega)]
    unfold hZ hX at hZ9 ⊢
    rw [f1, f2, f3, f4, f5, had 460 (by omega), had 461 (by omega), had 462 (by omega), had 463 (by omega), had 464 (by omega), had 465 (by omega), had 466 (by omega)]
    simp (disch := omega) only [had]
    exact hZ9
theorem scr_cg {ad ad2 : Nat → Nat} (had : ∀ k, 60 ≤ k → ad2 k = ad k) : scr ad2 = scr ad := by
  funext k
  unfold scr
  rw [had 466 (by omega), had (10000 + k) (by omega)]
theorem h_callL {p : Program} {l : Launch} {e : Env} {R : Room} {s : State} {m : MethodId} {args : Array Value} {below : List Frame} {meth : Method} {c : Code} {H : Heap} {locs : List Loc} {cells slots : Nat} {Q : State → Prop} {cc : ByteArray} {pc : Nat} {ls : Array Slot} {rest : List Value} {D : va_G} {cy : Nat → ClassId} {ad : Nat → Nat} {b : Nat} {μ : gM} {P T : va_W} {own : String} (hx : p.tables.exec = Jvm.exec) (hb : c.code = cc) (hml : c.maxLocals = ls.size) (hown : s.vm.findClass own = some m.cls) (E : hE l D cy ad b s) (hM : hW D cy ad b μ P T H) (hS : va_S (hA b) s.heap H locs) {y : MethodName} {bytes : ByteArray} {maxL n idx q k0 ci N fr lo : Nat} {ret : Option FieldType} {rv : Option Value} {As : List Value} {fs : List Nat} {T0 : u_T} {st : List Value} {μ' : gM} (hy : gYV y bytes maxL ret n) (hl : gw (.methodLink own idx y))
    (hMt : Met l y [.code y bytes maxL ret] ({ frames := fr, cells := 0, slots := 0, locals := lo }) (va_Pc (.ref (ad k0) :: As) (gB l gFull D cy ad (b, P ++ T) μ)) (gQL rv D cy ad (b, P ++ T) μ') 0 0 (gA (b, P ++ T)))
    (hk : gFull[q]? = some k0) (hd : gDesc k0 = .inr (ci, fs)) (hC : vwCl[ci]? = some (y.cls, T0, N)) (hn : As.length = n) (hst : st = As.reverse ++ .ref (ad k0) :: rest) (hroom : (rest.map fun v => v.category).sum ≤ 8) (hR : fr + 1 ≤ R.frames ∧ 8 + (maxL + 11) + lo ≤ R.locals) (hcs : cells ≤ R.cells ∧ slots ≤ R.slots) (hdg : decode cc pc = .ok (.invokevirtual idx, 3))
    (kk : ∀ (ad2 : Nat → Nat) (H1 : Heap) (locs1 : List Loc), (∀ k, k < 34 ∨ 60 ≤ k → ad2 k = ad k) → hW D cy ad2 b μ' P T H1 → va_S (hA b) s.heap H1 locs1 → W p l e R s m args below meth c H1 locs1 cells slots Q (F0 m (pc + 3) ls (rv.toList ++ rest))) : W p l e R s m args below meth c H locs cells slots Q (F0 m pc ls st) := by
  subst hst
  intro T1 hT X
  obtain ⟨y1, y2, y3, y4, y5, y6⟩ := hy
  have E1 : gEnv l D cy ad (b, P ++ T) s := E.g _
  have hM1 : gW gFull D cy ad (b, P ++ T) μ H := hM
  have hS1 : va_S (gA (b, P ++ T)) s.heap H locs := hS
  have cb : CallB R s args own idx y bytes maxL ret [.code y bytes maxL ret] ({ frames := fr, cells := 0, slots := 0, locals := lo }) 0 0 n :=
    ⟨rfl, rfl, hR.1, hR.2, (fun w hw a' U hW => by rw [List.mem_singleton.mp hw]; exact word_at hW (good_of_word y1.2) (E.kw y1 (a := #[]))), List.mem_cons_self, E.kw y1, E.kw y2, y5, (fun sig h => by rw [h] at y6; exact (Option.some.inj y6).symm), E.kw hl⟩
  obtain ⟨cellB, g1, g2, g3⟩ := va_recv E1.1 hM1.1 hC (by rw [gws_get hk, gE_obj hd])
  obtain ⟨v, st₀, t, T', L9, h0, X', hL, e1, ⟨hv, ⟨ad2, had, hW'⟩, hz, hq⟩, st⟩ := W.runV (As := As) (rest := rest) (b := ad k0) (C := y.cls) (own := own) (Ts := []) (nL := ls.size) ⟨hx, hb, hml, hown, fun _ h => nomatch h⟩ hMt ⟨cb, E.kw y3, E.kw y4⟩ ⟨gB_blind, ⟨cellB, g1, g2, g3⟩, gB_at E1 hM1 hS1⟩ (g := F0 m pc ls (As.reverse ++ .ref (ad k0) :: rest)) rfl hn rfl rfl (lv_room hroom) hdg ⟨hcs.1, hcs.2⟩ T1 hT X
  cases hv
  obtain ⟨t2, a1, b1⟩ := kk ad2 t.heap (locs ++ L9) had hW' (g_S_call hS1 h0 hz hq hL) T' e1 X'
  exact ⟨t2, st t2 a1, b1⟩
theorem xs_L_cell : gYS yL_cell cL_cell 2 (some .int) 2 := ⟨kw_542, kw_49, kw_541, ⟨by decide +kernel, by decide +kernel⟩, by decide +kernel⟩
theorem xy_X8_put : gYV yX8_put cX8_put 6 none 1 := ⟨kw_885, kw_50, kw_884, kw_8, ⟨by decide +kernel, by decide +kernel⟩, by decide +kernel⟩
theorem xy_X8_line : gYV yX8_line cX8_line 12 (some (.object "java/lang/String")) 2 := ⟨kw_818, kw_50, kw_817, kw_4, ⟨by decide +kernel, by decide +kernel⟩, by decide +kernel⟩
theorem dX8_init_0 : decode cX8_init 0 = .ok (.aload_n 0, 1) := by decide +kernel
theorem dX8_init_1 : decode cX8_init 1 = .ok (.invokespecial 3, 3) := by decide +kernel
theorem dX8_init_4 : decode cX8_init 4 = .ok (.aload_n 0, 1) := by decide +kernel
theorem dX8_init_5 : decode cX8_init 5 = .ok (.new 9, 3) := by decide +kernel
theorem dX8_init_8 : decode cX8_init 8 = .ok (.dup, 1) := by decide +kernel
theorem dX8_init_9 : decode cX8_init 9 = .ok (.invokespecial 11, 3) := by decide +kernel
theorem dX8_init_12 : decode cX8_init 12 = .ok (.putfield 12, 3) := by decide +kernel
theorem dX8_init_15 : decode cX8_init 15 = .ok (.aload_n 0, 1) := by decide +kernel
theorem dX8_init_16 : decode cX8_init 16 = .ok (.iconst 2, 1) := by decide +kernel
theorem dX8_init_17 : decode cX8_init 17 = .ok (.newarray .int, 2) := by decide +kernel
theorem dX8_init_19 : decode cX8_init 19 = .ok (.putfield 18, 3) := by decide +kernel
theorem dX8_init_22 : decode cX8_init 22 = .ok (.aload_n 0, 1) := by decide +kernel
theorem dX8_init_23 : decode cX8_init 23 = .ok (.bipush 16, 2) := by decide +kernel
theorem dX8_init_25 : decode cX8_init 25 = .ok (.newarray .int, 2) := by decide +kernel
theorem dX8_init_27 : decode cX8_init 27 = .ok (.putfield 22, 3) := by decide +kernel
theorem dX8_init_30 : decode cX8_init 30 = .ok (.aload_n 0, 1) := by decide +kernel
theorem dX8_init_31 : decode cX8_init 31 = .ok (.new 25, 3) := by decide +kernel
theorem dX8_init_34 : decode cX8_init 34 = .ok (.dup, 1) := by decide +kernel
theorem dX8_init_35 : decode cX8_init 35 = .ok (.invokespecial 27, 3) := by decide +kernel
theorem dX8_init_38 : decode cX8_init 38 = .ok (.putfield 28, 3) := by decide +kernel
theorem dX8_init_41 : decode cX8_init 41 = .ok (.aload_n 0, 1) := by decide +kernel
theorem dX8_init_42 : decode cX8_init 42 = .ok (.iconst 3, 1) := by decide +kernel
theorem dX8_init_43 : decode cX8_init 43 = .ok (.newarray .int, 2) := by decide +kernel
theorem dX8_init_45 : decode cX8_init 45 = .ok (.dup, 1) := by decide +kernel
theorem dX8_init_46 : decode cX8_init 46 = .ok (.iconst 0, 1) := by decide +kernel
theorem dX8_init_47 : decode cX8_init 47 = .ok (.bipush 40, 2) := by decide +kernel
theorem dX8_init_49 : decode cX8_init 49 = .ok (.iastore, 1) := by decide +kernel
theorem dX8_init_50 : decode cX8_init 50 = .ok (.dup, 1) := by decide +kernel
theorem dX8_init_51 : decode cX8_init 51 = .ok (.iconst 1, 1) := by decide +kernel
theorem dX8_init_52 : decode cX8_init 52 = .ok (.bipush 60, 2) := by decide +kernel
theorem dX8_init_54 : decode cX8_init 54 = .ok (.iastore, 1) := by decide +kernel
theorem dX8_init_55 : decode cX8_init 55 = .ok (.dup, 1) := by decide +kernel
theorem dX8_init_56 : decode cX8_init 56 = .ok (.iconst 2, 1) := by decide +kernel
theorem dX8_init_57 : decode cX8_init 57 = .ok (.bipush 20, 2) := by decide +kernel
theorem dX8_init_59 : decode cX8_init 59 = .ok (.iastore, 1) := by decide +kernel
theorem dX8_init_60 : decode cX8_init 60 = .ok (.putfield 32, 3) := by decide +kernel
theorem dX8_init_63 : decode cX8_init 63 = .ok (.aload_n 0, 1) := by decide +kernel
theorem dX8_init_64 : decode cX8_init 64 = .ok (.iconst 2, 1) := by decide +kernel
theorem dX8_init_65 : decode cX8_init 65 = .ok (.aload_n 1, 1) := by decide +kernel
theorem dX8_init_66 : decode cX8_init 66 = .ok (.iconst 0, 1) := by decide +kernel
theorem dX8_init_67 : decode cX8_init 67 = .ok (.invokestatic 35, 3) := by decide +kernel
theorem dX8_init_70 : decode cX8_init 70 = .ok (.bipush 7, 2) := by decide +kernel
theorem dX8_init_72 : decode cX8_init 72 = .ok (.invokestatic 39, 3) := by decide +kernel
theorem dX8_init_75 : decode cX8_init 75 = .ok (.iadd, 1) := by decide +kernel
theorem dX8_init_76 : decode cX8_init 76 = .ok (.putfield 43, 3) := by decide +kernel
theorem dX8_init_79 : decode cX8_init 79 = .ok (.aload_n 0, 1) := by decide +kernel
theorem dX8_init_80 : decode cX8_init 80 = .ok (.iconst 1, 1) := by decide +kernel
theorem dX8_init_81 : decode cX8_init 81 = .ok (.aload_n 1, 1) := by decide +kernel
theorem dX8_init_82 : decode cX8_init 82 = .ok (.iconst 0, 1) := by decide +kernel
theorem dX8_init_83 : decode cX8_init 83 = .ok (.invokestatic 35, 3) := by decide +kernel
theorem dX8_init_86 : decode cX8_init 86 = .ok (.iconst 4, 1) := by decide +kernel
theorem dX8_init_87 : decode cX8_init 87 = .ok (.ishr, 1) := by decide +kernel
theorem dX8_init_88 : decode cX8_init 88 = .ok (.bipush 11, 2) := by decide +kernel
theorem dX8_init_90 : decode cX8_init 90 = .ok (.invokestatic 39, 3) := by decide +kernel
theorem dX8_init_93 : decode cX8_init 93 = .ok (.iadd, 1) := by decide +kernel
theorem dX8_init_94 : decode cX8_init 94 = .ok (.putfield 47, 3) := by decide +kernel
theorem dX8_init_97 : decode cX8_init 97 = .ok (.aload_n 0, 1) := by decide +kernel
theorem dX8_init_98 : decode cX8_init 98 = .ok (.aload_n 0, 1) := by decide +kernel
theorem dX8_init_99 : decode cX8_init 99 = .ok (.getfield 47, 3) := by decide +kernel
theorem dX8_init_102 : decode cX8_init 102 = .ok (.iconst 2, 1) := by decide +kernel
theorem dX8_init_103 : decode cX8_init 103 = .ok (.multianewarray 50 2, 4) := by decide +kernel
theorem dX8_init_107 : decode cX8_init 107 = .ok (.putfield 52, 3) := by decide +kernel
theorem dX8_init_110 : decode cX8_init 110 = .ok (.aload_n 0, 1) := by decide +kernel
theorem dX8_init_111 : decode cX8_init 111 = .ok (.aload_n 0, 1) := by decide +kernel
theorem dX8_init_112 : decode cX8_init 112 = .ok (.getfield 47, 3) := by decide +kernel
theorem dX8_init_115 : decode cX8_init 115 = .ok (.newarray .int, 2) := by decide +kernel
theorem dX8_init_117 : decode cX8_init 117 = .ok (.putfield 55, 3) := by decide +kernel
theorem dX8_init_120 : decode cX8_init 120 = .ok (.aload_n 0, 1) := by decide +kernel
theorem dX8_init_121 : decode cX8_init 121 = .ok (.aload_n 0, 1) := by decide +kernel
theorem dX8_init_122 : decode cX8_init 122 = .ok (.getfield 47, 3) := by decide +kernel
theorem dX8_init_125 : decode cX8_init 125 = .ok (.newarray .boolean, 2) := by decide +kernel
theorem dX8_init_127 : decode cX8_init 127 = .ok (.putfield 58, 3) := by decide +kernel
theorem dX8_init_130 : decode cX8_init 130 = .ok (.aload_n 0, 1) := by decide +kernel
theorem dX8_init_131 : decode cX8_init 131 = .ok (.getfield 32, 3) := by decide +kernel
theorem dX8_init_134 : decode cX8_init 134 = .ok (.iconst 0, 1) := by decide +kernel
theorem dX8_init_135 : decode cX8_init 135 = .ok (.aload_n 1, 1) := by decide +kernel
theorem dX8_init_136 : decode cX8_init 136 = .ok (.iconst 0, 1) := by decide +kernel
theorem dX8_init_137 : decode cX8_init 137 = .ok (.invokestatic 35, 3) := by decide +kernel
theorem dX8_init_140 : decode cX8_init 140 = .ok (.bipush 9, 2) := by decide +kernel
theorem dX8_init_142 : decode cX8_init 142 = .ok (.ishr, 1) := by decide +kernel
theorem dX8_init_143 : decode cX8_init 143 = .ok (.sipush 200, 3) := by decide +kernel
theorem dX8_init_146 : decode cX8_init 146 = .ok (.invokestatic 39, 3) := by decide +kernel
theorem dX8_init_149 : decode cX8_init 149 = .ok (.iastore, 1) := by decide +kernel
theorem dX8_init_150 : decode cX8_init 150 = .ok (.aload_n 0, 1) := by decide +kernel
theorem dX8_init_151 : decode cX8_init 151 = .ok (.getfield 18, 3) := by decide +kernel
theorem dX8_init_154 : decode cX8_init 154 = .ok (.iconst 0, 1) := by decide +kernel
theorem dX8_init_155 : decode cX8_init 155 = .ok (.aload_n 1, 1) := by decide +kernel
theorem dX8_init_156 : decode cX8_init 156 = .ok (.iconst 1, 1) := by decide +kernel
theorem dX8_init_157 : decode cX8_init 157 = .ok (.invokestatic 35, 3) := by decide +kernel
theorem dX8_init_160 : decode cX8_init 160 = .ok (.sipush 401, 3) := by decide +kernel
theorem dX8_init_163 : decode cX8_init 163 = .ok (.invokestatic 39, 3) := by decide +kernel
theorem dX8_init_166 : decode cX8_init 166 = .ok (.sipush 200, 3) := by decide +kernel
theorem dX8_init_169 : decode cX8_init 169 = .ok (.isub, 1) := by decide +kernel
theorem dX8_init_170 : decode cX8_init 170 = .ok (.iastore, 1) := by decide +kernel
theorem dX8_init_171 : decode cX8_init 171 = .ok (.aload_n 0, 1) := by decide +kernel
theorem dX8_init_172 : decode cX8_init 172 = .ok (.getfield 18, 3) := by decide +kernel
theorem dX8_init_175 : decode cX8_init 175 = .ok (.iconst 1, 1) := by decide +kernel
theorem dX8_init_176 : decode cX8_init 176 = .ok (.aload_n 1, 1) := by decide +kernel
theorem dX8_init_177 : decode cX8_init 177 = .ok (.iconst 1, 1) := by decide +kernel
theorem dX8_init_178 : decode cX8_init 178 = .ok (.invokestatic 35, 3) := by decide +kernel
theorem dX8_init_181 : decode cX8_init 181 = .ok (.bipush 9, 2) := by decide +kernel
theorem dX8_init_183 : decode cX8_init 183 = .ok (.ishr, 1) := by decide +kernel
theorem dX8_init_184 : decode cX8_init 184 = .ok (.bipush 41, 2) := by decide +kernel
theorem dX8_init_186 : decode cX8_init 186 = .ok (.invokestatic 39, 3) := by decide +kernel
theorem dX8_init_189 : decode cX8_init 189 = .ok (.bipush 20, 2) := by decide +kernel
theorem dX8_init_191 : decode cX8_init 191 = .ok (.isub, 1) := by decide +kernel
theorem dX8_init_192 : decode cX8_init 192 = .ok (.iastore, 1) := by decide +kernel
theorem dX8_init_193 : decode cX8_init 193 = .ok (.new 62, 3) := by decide +kernel
theorem dX8_init_196 : decode cX8_init 196 = .ok (.dup, 1) := by decide +kernel
theorem dX8_init_197 : decode cX8_init 197 = .ok (.invokespecial 64, 3) := by decide +kernel
theorem dX8_init_200 : decode cX8_init 200 = .ok (.ldc 65, 2) := by decide +kernel
theorem dX8_init_202 : decode cX8_init 202 = .ok (.invokevirtual 67, 3) := by decide +kernel
theorem dX8_init_205 : decode cX8_init 205 = .ok (.aload_n 0, 1) := by decide +kernel
theorem dX8_init_206 : decode cX8_init 206 = .ok (.getfield 32, 3) := by decide +kernel
theorem dX8_init_209 : decode cX8_init 209 = .ok (.iconst 0, 1) := by decide +kernel
theorem dX8_init_210 : decode cX8_init 210 = .ok (.iaload, 1) := by decide +kernel
theorem dX8_init_211 : decode cX8_init 211 = .ok (.invokevirtual 71, 3) := by decide +kernel
theorem dX8_init_214 : decode cX8_init 214 = .ok (.ldc 74, 2) := by decide +kernel
theorem dX8_init_216 : decode cX8_init 216 = .ok (.invokevirtual 67, 3) := by decide +kernel
theorem dX8_init_219 : decode cX8_init 219 = .ok (.invokevirtual 76, 3) := by decide +kernel
theorem dX8_init_222 : decode cX8_init 222 = .ok (.astore_n 2, 1) := by decide +kernel
theorem dX8_init_223 : decode cX8_init 223 = .ok (.iconst 0, 1) := by decide +kernel
theorem dX8_init_224 : decode cX8_init 224 = .ok (.istore_n 3, 1) := by decide +kernel
theorem dX8_init_225 : decode cX8_init 225 = .ok (.iload_n 3, 1) := by decide +kernel
theorem dX8_init_226 : decode cX8_init 226 = .ok (.iconst 2, 1) := by decide +kernel
theorem dX8_init_227 : decode cX8_init 227 = .ok (.if_icmp .ge 73, 3) := by decide +kernel
theorem dX8_init_230 : decode cX8_init 230 = .ok (.new 62, 3) := by decide +kernel
theorem dX8_init_233 : decode cX8_init 233 = .ok (.dup, 1) := by decide +kernel
theorem dX8_init_234 : decode cX8_init 234 = .ok (.invokespecial 64, 3) := by decide +kernel
theorem dX8_init_237 : decode cX8_init 237 = .ok (.aload_n 2, 1) := by decide +kernel
theorem dX8_init_238 : decode cX8_init 238 = .ok (.invokevirtual 67, 3) := by decide +kernel
theorem dX8_init_241 : decode cX8_init 241 = .ok (.ldc 80, 2) := by decide +kernel
theorem dX8_init_243 : decode cX8_init 243 = .ok (.invokevirtual 67, 3) := by decide +kernel
theorem dX8_init_246 : decode cX8_init 246 = .ok (.bipush 97, 2) := by decide +kernel
theorem dX8_init_248 : decode cX8_init 248 = .ok (.iload_n 3, 1) := by decide +kernel
theorem dX8_init_249 : decode cX8_init 249 = .ok (.iadd, 1) := by decide +kernel
theorem dX8_init_250 : decode cX8_init 250 = .ok (.i2c, 1) := by decide +kernel
theorem dX8_init_251 : decode cX8_init 251 = .ok (.invokevirtual 82, 3) := by decide +kernel
theorem dX8_init_254 : decode cX8_init 254 = .ok (.ldc 85, 2) := by decide +kernel
theorem dX8_init_256 : decode cX8_init 256 = .ok (.invokevirtual 67, 3) := by decide +kernel
theorem dX8_init_259 : decode cX8_init 259 = .ok (.aload_n 0, 1) := by decide +kernel
theorem dX8_init_260 : decode cX8_init 260 = .ok (.getfield 18, 3) := by decide +kernel
theorem dX8_init_263 : decode cX8_init 263 = .ok (.iload_n 3, 1) := by decide +kernel
theorem dX8_init_264 : decode cX8_init 264 = .ok (.iaload, 1) := by decide +kernel
theorem dX8_init_265 : decode cX8_init 265 = .ok (.invokestatic 87, 3) := by decide +kernel
theorem dX8_init_268 : decode cX8_init 268 = .ok (.invokevirtual 71, 3) := by decide +kernel
theorem dX8_init_271 : decode cX8_init 271 = .ok (.aload_n 0, 1) := by decide +kernel
theorem dX8_init_272 : decode cX8_init 272 = .ok (.getfield 18, 3) := by decide +kernel
theorem dX8_init_275 : decode cX8_init 275 = .ok (.iload_n 3, 1) := by decide +kernel
theorem dX8_init_276 : decode cX8_init 276 = .ok (.iaload, 1) := by decide +kernel
theorem dX8_init_277 : decode cX8_init 277 = .ok (.ifCond .ge 8, 3) := by decide +kernel
theorem dX8_init_280 : decode cX8_init 280 = .ok (.ldc 93, 2) := by decide +kernel
theorem dX8_init_282 : decode cX8_init 282 = .ok (.goto 5, 3) := by decide +kernel
theorem dX8_init_285 : decode cX8_init 285 = .ok (.ldc 74, 2) := by decide +kernel
theorem dX8_init_287 : decode cX8_init 287 = .ok (.invokevirtual 67, 3) := by decide +kernel
theorem dX8_init_290 : decode cX8_init 290 = .ok (.invokevirtual 76, 3) := by decide +kernel
theorem dX8_init_293 : decode cX8_init 293 = .ok (.astore_n 2, 1) := by decide +kernel
theorem dX8_init_294 : decode cX8_init 294 = .ok (.iinc 3 1, 3) := by decide +kernel
theorem dX8_init_297 : decode cX8_init 297 = .ok (.goto (-72), 3) := by decide +kernel
theorem dX8_init_300 : decode cX8_init 300 = .ok (.iconst 0, 1) := by decide +kernel
theorem dX8_init_301 : decode cX8_init 301 = .ok (.istore_n 3, 1) := by decide +kernel
theorem dX8_init_302 : decode cX8_init 302 = .ok (.iload_n 3, 1) := by decide +kernel
theorem dX8_init_303 : decode cX8_init 303 = .ok (.aload_n 0, 1) := by decide +kernel
theorem dX8_init_304 : decode cX8_init 304 = .ok (.getfield 43, 3) := by decide +kernel
theorem dX8_init_307 : decode cX8_init 307 = .ok (.if_icmp .ge 121, 3) := by decide +kernel
theorem dX8_init_310 : decode cX8_init 310 = .ok (.aload_n 0, 1) := by decide +kernel
theorem dX8_init_311 : decode cX8_init 311 = .ok (.getfield 22, 3) := by decide +kernel
theorem dX8_init_314 : decode cX8_init 314 = .ok (.iload_n 3, 1) := by decide +kernel
theorem dX8_init_315 : decode cX8_init 315 = .ok (.aload_n 1, 1) := by decide +kernel
theorem dX8_init_316 : decode cX8_init 316 = .ok (.iconst 2, 1) := by decide +kernel
theorem dX8_init_317 : decode cX8_init 317 = .ok (.invokestatic 35, 3) := by decide +kernel
theorem dX8_init_320 : decode cX8_init 320 = .ok (.iconst 3, 1) := by decide +kernel
theorem dX8_init_321 : decode cX8_init 321 = .ok (.iload_n 3, 1) := by decide +kernel
theorem dX8_init_322 : decode cX8_init 322 = .ok (.imul, 1) := by decide +kernel
theorem dX8_init_323 : decode cX8_init 323 = .ok (.ishr, 1) := by decide +kernel
theorem dX8_init_324 : decode cX8_init 324 = .ok (.iconst 5, 1) := by decide +kernel
theorem dX8_init_325 : decode cX8_init 325 = .ok (.invokestatic 39, 3) := by decide +kernel
theorem dX8_init_328 : decode cX8_init 328 = .ok (.ifCond .ne 18, 3) := by decide +kernel
theorem dX8_init_331 : decode cX8_init 331 = .ok (.aload_n 1, 1) := by decide +kernel
theorem dX8_init_332 : decode cX8_init 332 = .ok (.iconst 2, 1) := by decide +kernel
theorem dX8_init_333 : decode cX8_init 333 = .ok (.invokestatic 35, 3) := by decide +kernel
theorem dX8_init_336 : decode cX8_init 336 = .ok (.iload_n 3, 1) := by decide +kernel
theorem dX8_init_337 : decode cX8_init 337 = .ok (.ishr, 1) := by decide +kernel
theorem dX8_init_338 : decode cX8_init 338 = .ok (.ldc 95, 2) := by decide +kernel
theorem dX8_init_340 : decode cX8_init 340 = .ok (.invokestatic 39, 3) := by decide +kernel
theorem dX8_init_343 : decode cX8_init 343 = .ok (.goto 4, 3) := by decide +kernel
theorem dX8_init_346 : decode cX8_init 346 = .ok (.iconst (-1), 1) := by decide +kernel
theorem dX8_init_347 : decode cX8_init 347 = .ok (.iastore, 1) := by decide +kernel
theorem dX8_init_348 : decode cX8_init 348 = .ok (.new 62, 3) := by decide +kernel
theorem dX8_init_351 : decode cX8_init 351 = .ok (.dup, 1) := by decide +kernel
theorem dX8_init_352 : decode cX8_init 352 = .ok (.invokespecial 64, 3) := by decide +kernel
theorem dX8_init_355 : decode cX8_init 355 = .ok (.aload_n 2, 1) := by decide +kernel
theorem dX8_init_356 : decode cX8_init 356 = .ok (.invokevirtual 67, 3) := by decide +kernel
theorem dX8_init_359 : decode cX8_init 359 = .ok (.ldc 96, 2) := by decide +kernel
theorem dX8_init_361 : decode cX8_init 361 = .ok (.invokevirtual 67, 3) := by decide +kernel
theorem dX8_init_364 : decode cX8_init 364 = .ok (.bipush 97, 2) := by decide +kernel
theorem dX8_init_366 : decode cX8_init 366 = .ok (.iload_n 3, 1) := by decide +kernel
theorem dX8_init_367 : decode cX8_init 367 = .ok (.iadd, 1) := by decide +kernel
theorem dX8_init_368 : decode cX8_init 368 = .ok (.i2c, 1) := by decide +kernel
theorem dX8_init_369 : decode cX8_init 369 = .ok (.invokevirtual 82, 3) := by decide +kernel
theorem dX8_init_372 : decode cX8_init 372 = .ok (.aload_n 0, 1) := by decide +kernel
theorem dX8_init_373 : decode cX8_init 373 = .ok (.getfield 22, 3) := by decide +kernel
theorem dX8_init_376 : decode cX8_init 376 = .ok (.iload_n 3, 1) := by decide +kernel
theorem dX8_init_377 : decode cX8_init 377 = .ok (.iaload, 1) := by decide +kernel
theorem dX8_init_378 : decode cX8_init 378 = .ok (.ifCond .ge 8, 3) := by decide +kernel
theorem dX8_init_381 : decode cX8_init 381 = .ok (.ldc 74, 2) := by decide +kernel
theorem dX8_init_383 : decode cX8_init 383 = .ok (.goto 32, 3) := by decide +kernel
theorem dX8_init_386 : decode cX8_init 386 = .ok (.new 62, 3) := by decide +kernel
theorem dX8_init_389 : decode cX8_init 389 = .ok (.dup, 1) := by decide +kernel
theorem dX8_init_390 : decode cX8_init 390 = .ok (.invokespecial 64, 3) := by decide +kernel
theorem dX8_init_393 : decode cX8_init 393 = .ok (.ldc 85, 2) := by decide +kernel
theorem dX8_init_395 : decode cX8_init 395 = .ok (.invokevirtual 67, 3) := by decide +kernel
theorem dX8_init_398 : decode cX8_init 398 = .ok (.aload_n 0, 1) := by decide +kernel
theorem dX8_init_399 : decode cX8_init 399 = .ok (.getfield 22, 3) := by decide +kernel
theorem dX8_init_402 : decode cX8_init 402 = .ok (.iload_n 3, 1) := by decide +kernel
theorem dX8_init_403 : decode cX8_init 403 = .ok (.iaload, 1) := by decide +kernel
theorem dX8_init_404 : decode cX8_init 404 = .ok (.invokevirtual 71, 3) := by decide +kernel
theorem dX8_init_407 : decode cX8_init 407 = .ok (.ldc 74, 2) := by decide +kernel
theorem dX8_init_409 : decode cX8_init 409 = .ok (.invokevirtual 67, 3) := by decide +kernel
theorem dX8_init_412 : decode cX8_init 412 = .ok (.invokevirtual 76, 3) := by decide +kernel
theorem dX8_init_415 : decode cX8_init 415 = .ok (.invokevirtual 67, 3) := by decide +kernel
theorem dX8_init_418 : decode cX8_init 418 = .ok (.invokevirtual 76, 3) := by decide +kernel
theorem dX8_init_421 : decode cX8_init 421 = .ok (.astore_n 2, 1) := by decide +kernel
theorem dX8_init_422 : decode cX8_init 422 = .ok (.iinc 3 1, 3) := by decide +kernel
theorem dX8_init_425 : decode cX8_init 425 = .ok (.goto (-123), 3) := by decide +kernel
theorem dX8_init_428 : decode cX8_init 428 = .ok (.iconst 0, 1) := by decide +kernel
theorem dX8_init_429 : decode cX8_init 429 = .ok (.istore_n 3, 1) := by decide +kernel
theorem dX8_init_430 : decode cX8_init 430 = .ok (.iload_n 3, 1) := by decide +kernel
theorem dX8_init_431 : decode cX8_init 431 = .ok (.aload_n 0, 1) := by decide +kernel
theorem dX8_init_432 : decode cX8_init 432 = .ok (.getfield 47, 3) := by decide +kernel
theorem dX8_init_435 : decode cX8_init 435 = .ok (.if_icmp .ge 39, 3) := by decide +kernel
theorem dX8_init_438 : decode cX8_init 438 = .ok (.new 62, 3) := by decide +kernel
theorem dX8_init_441 : decode cX8_init 441 = .ok (.dup, 1) := by decide +kernel
theorem dX8_init_442 : decode cX8_init 442 = .ok (.invokespecial 64, 3) := by decide +kernel
theorem dX8_init_445 : decode cX8_init 445 = .ok (.aload_n 2, 1) := by decide +kernel
theorem dX8_init_446 : decode cX8_init 446 = .ok (.invokevirtual 67, 3) := by decide +kernel
theorem dX8_init_449 : decode cX8_init 449 = .ok (.aload_n 0, 1) := by decide +kernel
theorem dX8_init_450 : decode cX8_init 450 = .ok (.iload_n 3, 1) := by decide +kernel
theorem dX8_init_451 : decode cX8_init 451 = .ok (.aload_n 1, 1) := by decide +kernel
theorem dX8_init_452 : decode cX8_init 452 = .ok (.iconst 3, 1) := by decide +kernel
theorem dX8_init_453 : decode cX8_init 453 = .ok (.iload_n 3, 1) := by decide +kernel
theorem dX8_init_454 : decode cX8_init 454 = .ok (.iadd, 1) := by decide +kernel
theorem dX8_init_455 : decode cX8_init 455 = .ok (.invokestatic 35, 3) := by decide +kernel
theorem dX8_init_458 : decode cX8_init 458 = .ok (.invokevirtual 98, 3) := by decide +kernel
theorem dX8_init_461 : decode cX8_init 461 = .ok (.invokevirtual 67, 3) := by decide +kernel
theorem dX8_init_464 : decode cX8_init 464 = .ok (.invokevirtual 76, 3) := by decide +kernel
theorem dX8_init_467 : decode cX8_init 467 = .ok (.astore_n 2, 1) := by decide +kernel
theorem dX8_init_468 : decode cX8_init 468 = .ok (.iinc 3 1, 3) := by decide +kernel
theorem dX8_init_471 : decode cX8_init 471 = .ok (.goto (-41), 3) := by decide +kernel
theorem dX8_init_474 : decode cX8_init 474 = .ok (.aload_n 0, 1) := by decide +kernel
theorem dX8_init_475 : decode cX8_init 475 = .ok (.aload_n 2, 1) := by decide +kernel
theorem dX8_init_476 : decode cX8_init 476 = .ok (.invokevirtual 102, 3) := by decide +kernel
theorem dX8_init_479 : decode cX8_init 479 = .ok (.aload_n 0, 1) := by decide +kernel
theorem dX8_init_480 : decode cX8_init 480 = .ok (.aload_n 0, 1) := by decide +kernel
theorem dX8_init_481 : decode cX8_init 481 = .ok (.getfield 12, 3) := by decide +kernel
theorem dX8_init_484 : decode cX8_init 484 = .ok (.aload_n 2, 1) := by decide +kernel
theorem dX8_init_485 : decode cX8_init 485 = .ok (.invokevirtual 106, 3) := by decide +kernel
theorem dX8_init_488 : decode cX8_init 488 = .ok (.invokevirtual 112, 3) := by decide +kernel
theorem dX8_init_491 : decode cX8_init 491 = .ok (.ifCond .lt 7, 3) := by decide +kernel
theorem dX8_init_494 : decode cX8_init 494 = .ok (.iconst 1, 1) := by decide +kernel
theorem dX8_init_495 : decode cX8_init 495 = .ok (.goto 4, 3) := by decide +kernel
theorem dX8_init_498 : decode cX8_init 498 = .ok (.iconst 0, 1) := by decide +kernel
theorem dX8_init_499 : decode cX8_init 499 = .ok (.putfield 115, 3) := by decide +kernel
theorem dX8_init_502 : decode cX8_init 502 = .ok (.return_, 1) := by decide +kernel
set_option maxHeartbeats 4000000 in
set_option maxRecDepth 100000 in
theorem w_Ln_491 {p : Program} {l : Launch} {e : Env} {s : State} {m : MethodId} {args : Array Value} {below : List Frame} {meth : Method} {c : Code} {D : va_G} {cy : Nat → ClassId} {ad : Nat → Nat} {b o0 : Nat} {la : Nat → Nat → Nat} {μ ν : gM} {r : Int32} {Z : Option Value → Heap → Prop} {cells slots : Nat} (F : gF p s m meth c cX8_init RX8 4 none) (E : hE l D cy ad b s) (hs : lS ν) (kz : ∀ (la1 : Nat → Nat → Nat) (H : Heap), la1 0 0 = la 0 0 → lS (si ν 0 11 (if r < 0 then (0 : Int32) else (1 : Int32))) → hW D cy ad b μ (lws cy ad la1 (si ν 0 11 (if r < 0 then (0 : Int32) else (1 : Int32)))) [] H → Z none H) (hc : cells ≤ 1876) (hsl : slots ≤ 2285440) {H : Heap} {locs : List Loc} {ls : Array Slot} (hM : hW D cy ad b μ (lws cy ad la ν) [] H) (hS : va_S (hA b) s.heap H locs) (hl : ls.size = 4) : W p l e ({ frames := 8, cells := 1876, slots := 2285440, locals := 202 } : Room) s m args below meth c H locs cells slots (MQ below (hQ b Z) args s 1876 2285440 (hA b)) (F0 m 491 ls [.int r, .ref (la 0 0)]) := by
  obtain ⟨hx, hb, hml, hown, hlocks, hr⟩ := id F
  have hS9 : ∀ x, lS (si ν 0 11 x) := fun x => by
    have h0 : ∀ i, i ≠ 11 → (si ν 0 11 x).1 0 i = ν.1 0 i := fun i hi => by
      show (if 0 = 0 ∧ i = 11 then _ else _) = _
      rw [if_neg (fun q => hi q.2)]
    have hag : ∀ y, y ≠ 0 → (si ν 0 11 x).1 y = ν.1 y := fun y hy => (lAg_si y hy).1
    have hsz : ∀ j, lSz (si ν 0 11 x) j = lSz ν j := fun j => by unfold lSz gi; rw [hag (40 + j) (by omega)]
    have hls : lLs (si ν 0 11 x) = lLs ν := by unfold lLs gi; rw [hag 6 (by decide)]
    unfold lS at hs ⊢
    rw [hls]
    unfold lLn lPt gi at hs ⊢
    rw [h0 2 (by decide), h0 1 (by decide), hag 7 (by decide), hag 6 (by decide)]
    exact ⟨hs.1, hs.2.1, hs.2.2.1, fun k hk => by rw [hsz]; exact hs.2.2.2 k hk⟩
  refine lv_if_lt (tgt := 498) hx hb dX8_init_491 (by decide) (fun c1 => ?_) (fun c1 => ?_)
  · rw [if_pos c1] at kz
    refine lv_iconst (v := (0 : Int32)) hx hb dX8_init_498 (by decide) ?_
    refine lw_isRead hx hb hown E hM hS (Or.inl rfl) kw_1035 dX8_init_499 (fun H locs hM hS => ?_)
    exact h_vret hx hb hr hlocks hc hsl (kz _ _ rfl (hS9 _) hM) hS dX8_init_502
  · rw [if_neg c1] at kz
    refine lv_iconst (v := (1 : Int32)) hx hb dX8_init_494 (by decide) ?_
    refine lv_goto (tgt := 499) hx hb dX8_init_495 (by decide) ?_
    refine lw_isRead hx hb hown E hM hS (Or.inr rfl) kw_1035 dX8_init_499 (fun H locs hM hS => ?_)
    exact h_vret hx hb hr hlocks hc hsl (kz _ _ rfl (hS9 _) hM) hS dX8_init_502
def b_Ln_302 (xs : Nat → Int32) (x3 : Int32) (t9 : List Nat) (ν μ : gM) : Option ((Int32 × List Nat × gM) ⊕ (List Nat × gM)) :=
  if ((gi ν 0 1) ≤ x3) then some (.inr (t9, ν)) else Option.bind (f_L_mod ((xs 2) >>> (((3 : Int32) * x3) &&& 31)) (5 : Int32) μ) (fun q104 => if (q104 = 0) then Option.bind (f_L_mod ((xs 2) >>> (x3 &&& 31)) (200000 : Int32) μ) (fun q165 => gchk (gIn x3 16) (Option.bind (some (si ν 2 x3.toNatClampNeg q165)) (fun ν167 => gchk ((([] : List Nat)).length + (t9).length ≤ 1024) (Option.bind (some (([] : List Nat) ++ t9)) (fun s174 => gchk ((s174).length + (sTx 5).length ≤ 1024) (Option.bind (some (s174 ++ sTx 5)) (fun s179 => gchk (gIn ((97 : Int32) + x3) 256) (gchk (gIn ((97 : Int32) + x3) 256 ∧ (s179).length + 1 ≤ 1024) (Option.bind (some (s179 ++ [((97 : Int32) + x3).toNatClampNeg])) (fun s185 => gchk (gIn x3 16) (if (0 ≤ (gi ν167 2 x3.toNatClampNeg)) then gchk ((([] : List Nat)).length + (sTx 3).length ≤ 1024) (Option.bind (some (([] : List Nat) ++ sTx 3)) (fun s194 => gchk (gIn x3 16) (gchk (gIn (gi ν167 2 x3.toNatClampNeg) 1000000 ∧ (s194).length + (sdig ((gi ν167 2 x3.toNatClampNeg).toNatClampNeg)).length ≤ 1024) (Option.bind (some (s194 ++ sdig ((gi ν167 2 x3.toNatClampNeg).toNatClampNeg))) (fun s200 => gchk ((s200).length + (sTx 1).length ≤ 1024) (Option.bind (some (s200 ++ sTx 1)) (fun s205 => gchk ((s185).length + (s205).length ≤ 1024) (Option.bind (some (s185 ++ s205)) (fun s213 => some (.inl ((x3 + (1 : Int32)), s213, ν167))))))))))) else gchk ((s185).length + (sTx 1).length ≤ 1024) (Option.bind (some (s185 ++ sTx 1)) (fun s221 => some (.inl ((x3 + (1 : Int32)), s221, ν167))))))))))))))) else gchk (gIn x3 16) (Option.bind (some (si ν 2 x3.toNatClampNeg (-1 : Int32))) (fun ν107 => gchk ((([] : List Nat)).length + (t9).length ≤ 1024) (Option.bind (some (([] : List Nat) ++ t9)) (fun s114 => gchk ((s114).length + (sTx 5).length ≤ 1024) (Option.bind (some (s114 ++ sTx 5)) (fun s119 => gchk (gIn ((97 : Int32) + x3) 256) (gchk (gIn ((97 : Int32) + x3) 256 ∧ (s119).length + 1 ≤ 1024) (Option.bind (some (s119 ++ [((97 : Int32) + x3).toNatClampNeg])) (fun s125 => gchk (gIn x3 16) (if (0 ≤ (gi ν107 2 x3.toNatClampNeg)) then gchk ((([] : List Nat)).length + (sTx 3).length ≤ 1024) (Option.bind (some (([] : List Nat) ++ sTx 3)) (fun s134 => gchk (gIn x3 16) (gchk (gIn (gi ν107 2 x3.toNatClampNeg) 1000000 ∧ (s134).length + (sdig ((gi ν107 2 x3.toNatClampNeg).toNatClampNeg)).length ≤ 1024) (Option.bind (some (s134 ++ sdig ((gi ν107 2 x3.toNatClampNeg).toNatClampNeg))) (fun s140 => gchk ((s140).length + (sTx 1).length ≤ 1024) (Option.bind (some (s140 ++ sTx 1)) (fun s145 => gchk ((s125).length + (s145).length ≤ 1024) (Option.bind (some (s125 ++ s145)) (fun s153 => some (.inl ((x3 + (1 : Int32)), s153, ν107))))))))))) else gchk ((s125).length + (sTx 1).length ≤ 1024) (Option.bind (some (s125 ++ sTx 1)) (fun s161 => some (.inl ((x3 + (1 : Int32)), s161, ν107)))))))))))))))
set_option maxHeartbeats 20000000 in
set_option maxRecDepth 100000 in
theorem wb_Ln_302 {p : Program} {l : Launch} {e : Env} {s : State} {m : MethodId} {args : Array Value} {below : List Frame} {meth : Method} {c : Code} {D : va_G} {cy : Nat → ClassId} {ad : Nat → Nat} {b o0 : Nat} {sa va : Nat} {la : Nat → Nat → Nat} {μ ν : gM} {x3 : Int32} {t9 : List Nat} {o : (Int32 × List Nat × gM) ⊕ (List Nat × gM)} {Q : State → Prop} {cells slots C0 S0 : Nat} (h : b_Ln_302 (scr ad) x3 t9 ν μ = some o) (F : gF p s m meth c cX8_init RX8 4 none) (E : hE l D cy ad b s) (hoo : la 0 0 = o0) (hs : lS ν) (hc : cells + 15 ≤ C0) (hsl : slots + 22632 ≤ S0) (hcm : C0 ≤ 1876) (hsm : S0 ≤ 2285440) (kc : ∀ (t : Int32 × List Nat × gM) {la1 : Nat → Nat → Nat} {sa1 va1 : Nat} {H : Heap} {locs : List Loc} {ls : Array Slot}, o = .inl t → lS t.2.2 → la1 0 0 = o0 → hW D cy ad b μ (lws cy ad la1 t.2.2) [(sa1, sO va1), (va1, sV cy t.2.1)] H → va_S (hA b) s.heap H locs → lv_has ls 4 [(0, .ref (la1 0 0)), (1, .ref (ad 465)), (2, .ref sa1), (3, .int t.1)] → W p l e ({ frames := 8, cells := 1876, slots := 2285440, locals := 202 } : Room) s m args below meth c H locs C0 S0 Q (F0 m 302 ls [])) (kx : ∀ (t : List Nat × gM) {la1 : Nat → Nat → Nat} {sa1 va1 : Nat} {H : Heap} {locs : List Loc} {ls : Array Slot}, o = .inr t → lS t.2 → la1 0 0 = o0 → hW D cy ad b μ (lws cy ad la1 t.2) [(sa1, sO va1), (va1, sV cy t.1)] H → va_S (hA b) s.heap H locs → lv_has ls 4 [(0, .ref (la1 0 0)), (1, .ref (ad 465)), (2, .ref sa1)] → W p l e ({ frames := 8, cells := 1876, slots := 2285440, locals := 202 } : Room) s m args below meth c H locs C0 S0 Q (F0 m 428 ls [])) {H : Heap} {locs : List Loc} {ls : Array Slot} (hM : hW D cy ad b μ (lws cy ad la ν) [(sa, sO va), (va, sV cy t9)] H) (hS : va_S (hA b) s.heap H locs) (hl : lv_has ls 4 [(0, .ref (la 0 0)), (1, .ref (ad 465)), (2, .ref sa), (3, .int x3)]) : W p l e ({ frames := 8, cells := 1876, slots := 2285440, locals := 202 } : Room) s m args below meth c H locs cells slots Q (F0 m 302 ls []) := by
  obtain ⟨hx, hb, hml, hown, hlocks, hr⟩ := id F
  have hY := lY0_self (cy := cy) (ad := ad) (la := la) hs
  unfold b_Ln_302 at h
  refine lv_iload_n hx hb dX8_init_302 rfl (lv_at hl 3 rfl) ?_
  refine lv_aload_n hx hb dX8_init_303 rfl (lv_at hl 0 rfl) ?_
  refine h_get hx hb hown E hM (hp_m hY.n0) gC_X8 1 (by decide) (v := .int (gi ν 0 1)) rfl kw_1025 dX8_init_304 ?_
  refine lv_icmp_ge (tgt := 428) hx hb dX8_init_307 (by decide) (fun c103 => ?_) (fun c103 => ?_)
  · replace h := gif_t c103 h
    refine W.widen (k := C0) (n := S0) (by omega) (by omega) ?_
    exact kx _ (Option.some.inj h).symm hs hoo hM hS (lv_sub hl [0, 1, 2] rfl)
  · replace h := gif_f c103 h
    refine lv_aload_n hx hb dX8_init_310 rfl (lv_at hl 0 rfl) ?_
    refine h_get hx hb hown E hM (hp_m hY.n0) gC_X8 4 (by decide) (v := .ref (la 2 0)) rfl kw_1028 dX8_init_311 ?_
    refine lv_iload_n hx hb dX8_init_314 rfl (lv_at hl 3 rfl) ?_
    refine lv_aload_n hx hb dX8_init_315 rfl (lv_at hl 1 rfl) ?_
    refine lv_iconst (v := (2 : Int32)) hx hb dX8_init_316 (by decide) ?_
    replace hM := hW.low (T := [(sa, sO va), (va, sV cy t9)]) hM
    refine h_callSN (As := [.ref (ad 465), .int (2 : Int32)]) (rest := [.int x3, .ref (la 2 0)]) hx hb (hml.trans hl.1.symm) hown E hM hS xs_L_cell (E.2.1.2.2.1 _ (List.mem_of_getElem? (i := 0) rfl)) (c_cell (k := 2) (by decide)) rfl rfl (Nat.le_of_ble_eq_true rfl) ⟨(Nat.le_of_ble_eq_true rfl), (Nat.le_of_ble_eq_true rfl)⟩ ⟨(show _ ≤ 1876 by omega), (show _ ≤ 2285440 by omega)⟩ dX8_init_317 (fun rv H locs hZ hS => ?_)
    obtain ⟨rfl, hM⟩ := hZ
    replace hM := hW.up (T := [(sa, sO va), (va, sV cy t9)]) hM
    replace hM : hW D cy ad b μ (lws cy ad la ν) [(sa, sO va), (va, sV cy t9)] H := hM
    refine lv_iconst (v := (3 : Int32)) hx hb dX8_init_320 (by decide) ?_
    refine lv_iload_n hx hb dX8_init_321 rfl (lv_at hl 3 rfl) ?_
    refine lv_imul hx hb dX8_init_322 ?_
    refine lv_ishr hx hb dX8_init_323 ?_
    refine lv_iconst (v := (5 : Int32)) hx hb dX8_init_324 (by decide) ?_
    obtain ⟨q104, hq104, h⟩ := gbind_e h
    refine h_callSCN (As := [.int ((scr ad 2) >>> (((3 : Int32) * x3) &&& 31)), .int (5 : Int32)]) (rest := [.int x3, .ref (la 2 0)]) hx hb (hml.trans hl.1.symm) hown E hM hS hy_L_mod (E.2.1.2.2.1 _ (List.mem_of_getElem? (i := 1) rfl)) (c_L_mod hq104) rfl rfl (Nat.le_of_ble_eq_true rfl) ⟨(Nat.le_of_ble_eq_true rfl), (Nat.le_of_ble_eq_true rfl)⟩ ⟨(show _ ≤ 1876 by omega), (show _ ≤ 2285440 by omega)⟩ dX8_init_325 (fun H locs hM hS => ?_)
    refine lv_if_ne (tgt := 346) hx hb dX8_init_328 (by decide) (fun c105 => ?_) (fun c105 => ?_)
    · replace h := gif_f c105 h
      refine lv_iconst (v := (-1 : Int32)) hx hb dX8_init_346 (by decide) ?_
      obtain ⟨c106, h⟩ := gchk_e h
      refine lw_held hx hb E hs hM hS c106 dX8_init_347 (fun H locs hM hS => ?_)
      obtain ⟨ν107, hν107, h⟩ := gupd h
      rw [← hν107] at hM
      replace hs : lS ν107 := by rw [hν107]; exact (si_S (by unfold okid; omega) hs)
      have hY := lY0_self (cy := cy) (ad := ad) (la := la) hs
      refine h_new hx hb hown E hM hS gC_J4 kw_549 kw_550 kw_63 (fs := [.null, .int (0 : Int32), .int (0 : Int32), .int (0 : Int32)]) (by decide +kernel) (show _ ≤ 1876 by omega) (show _ ≤ 2285440 by omega) dX8_init_348 (fun a108 H hM hS => ?_)
      replace hM : hW D cy ad b μ (lws cy ad la ν107) [(sa, sO va), (va, sV cy t9), (a108, .inr (10, [.null, .int (0 : Int32), .int (0 : Int32), .int (0 : Int32)]))] H := hM
      refine lv_dup hx hb dX8_init_351 rfl ?_
      replace hM := hW.right (X := [(sa, sO va), (va, sV cy t9)]) (T := [(a108, .inr (10, [.null, .int (0 : Int32), .int (0 : Int32), .int (0 : Int32)]))]) hM
      refine h_callI (As := []) (rest := [.ref a108]) hx hb (hml.trans hl.1.symm) hown E hM hS xi_J4_init_da8c8 kw_551 c_binit rfl rfl (Nat.le_of_ble_eq_true rfl) ⟨(Nat.le_of_ble_eq_true rfl), (Nat.le_of_ble_eq_true rfl)⟩ ⟨(show _ ≤ 1876 by omega), (show _ ≤ 2285440 by omega)⟩ dX8_init_352 (fun rv H locs hZ hS => ?_)
      obtain ⟨vb109, rfl, hM⟩ := hZ
      replace hM := hW.left (X := [(sa, sO va), (va, sV cy t9)]) (T := (sB cy a108 vb109 16 (0 : Int32) ([] : List Nat))) hM
      replace hM : hW D cy ad b μ (lws cy ad la ν107) ([(sa, sO va), (va, sV cy t9)] ++ sB cy a108 vb109 16 (0 : Int32) ([] : List Nat)) H := hM
      refine lv_aload_n hx hb dX8_init_355 rfl (lv_at hl 2 rfl) ?_
      obtain ⟨c110, h⟩ := gchk_e h
      obtain ⟨s114, hs114, h⟩ := gnm h
      replace hM := hW.right (X := [(sa, sO va), (va, sV cy t9)]) (T := (sB cy a108 vb109 16 (0 : Int32) ([] : List Nat))) hM
      refine h_callV (As := [.ref sa]) (rest := []) hx hb (hml.trans hl.1.symm) hown E hM hS xy_J4_append_15ec4 kw_581 (c_appS (Or.inr ⟨List.mem_append_right _ (List.mem_of_getElem? (i := 0) rfl), List.mem_append_right _ (List.mem_of_getElem? (i := 1) rfl)⟩) c110 (show ([] : List Nat).length ≤ 16 by decide) (show 16 ≤ 2056 by decide)) (ht_m List.mem_cons_self) gC_J4.1 rfl rfl (Nat.le_of_ble_eq_true rfl) ⟨(Nat.le_of_ble_eq_true rfl), (Nat.le_of_ble_eq_true rfl)⟩ ⟨(show _ ≤ 1876 by omega), (show _ ≤ 2285440 by omega)⟩ dX8_init_356 (fun rv H locs hZ hS => ?_)
      obtain ⟨vb111, w112, rfl, he113, hM⟩ := hZ
      rw [← hs114] at hM he113
      replace hM := hW.left (X := [(sa, sO va), (va, sV cy t9)]) hM
      replace hM : hW D cy ad b μ (lws cy ad la ν107) ([(sa, sO va), (va, sV cy t9)] ++ sB cy a108 vb111 w112 (0 : Int32) s114) H := hM
      refine va_ldcS hx hb hown (E.2.2.2.2.2.2.2.2.2.2.2.1 5 (by decide)) dX8_init_359 ?_
      obtain ⟨c115, h⟩ := gchk_e h
      obtain ⟨s119, hs119, h⟩ := gnm h
      replace hM := hW.right (X := [(sa, sO va), (va, sV cy t9)]) (T := (sB cy a108 vb111 w112 (0 : Int32) s114)) hM
      refine h_callV (As := [.ref (ad (470 + 5))]) (rest := []) hx hb (hml.trans hl.1.symm) hown E hM hS xy_J4_append_15ec4 kw_581 (c_appS (sSrc_k (by decide : 5 < 9)) c115 he113.1 he113.2) (ht_m List.mem_cons_self) gC_J4.1 rfl rfl (Nat.le_of_ble_eq_true rfl) ⟨(Nat.le_of_ble_eq_true rfl), (Nat.le_of_ble_eq_true rfl)⟩ ⟨(show _ ≤ 1876 by omega), (show _ ≤ 2285440 by omega)⟩ dX8_init_361 (fun rv H locs hZ hS => ?_)
      obtain ⟨vb116, w117, rfl, he118, hM⟩ := hZ
      rw [← hs119] at hM he118
      replace hM := hW.left (X := [(sa, sO va), (va, sV cy t9)]) hM
      replace hM : hW D cy ad b μ (lws cy ad la ν107) ([(sa, sO va), (va, sV cy t9)] ++ sB cy a108 vb116 w117 (0 : Int32) s119) H := hM
      refine lv_bipush (v := (97 : Int32)) hx hb dX8_init_364 (by decide) ?_
      refine lv_iload_n hx hb dX8_init_366 rfl (lv_at hl 3 rfl) ?_
      refine lv_iadd hx hb dX8_init_367 ?_
      obtain ⟨c120, h⟩ := gchk_e h
      refine lv_i2c (v := ((97 : Int32) + x3)) hx hb dX8_init_368 (x_i2c c120) ?_
      obtain ⟨c121, h⟩ := gchk_e h
      obtain ⟨s125, hs125, h⟩ := gnm h
      replace hM := hW.right (X := [(sa, sO va), (va, sV cy t9)]) (T := (sB cy a108 vb116 w117 (0 : Int32) s119)) hM
      refine h_callV (As := [.int ((97 : Int32) + x3)]) (rest := []) hx hb (hml.trans hl.1.symm) hown E hM hS xy_J4_append_cf468 kw_786 (by have h9 := c_appC (l := l) (D := D) (cy := cy) (ad := ad) (b := b) (μ := μ) (P := ((lws cy ad la ν107) ++ [(sa, sO va), (va, sV cy t9)])) (ba := a108) (vb := vb116) (w := w117) (ml := 0) (U := s119) c121.1.2 c121.2 he118.1 he118.2; rwa [← gIn_e c121.1] at h9) (ht_m List.mem_cons_self) gC_J4.1 rfl rfl (Nat.le_of_ble_eq_true rfl) ⟨(Nat.le_of_ble_eq_true rfl), (Nat.le_of_ble_eq_true rfl)⟩ ⟨(show _ ≤ 1876 by omega), (show _ ≤ 2285440 by omega)⟩ dX8_init_369 (fun rv H locs hZ hS => ?_)
      obtain ⟨vb122, w123, rfl, he124, hM⟩ := hZ
      rw [← hs125] at hM he124
      replace hM := hW.left (X := [(sa, sO va), (va, sV cy t9)]) hM
      replace hM : hW D cy ad b μ (lws cy ad la ν107) ([(sa, sO va), (va, sV cy t9)] ++ sB cy a108 vb122 w123 (0 : Int32) s125) H := hM
      refine lv_aload_n hx hb dX8_init_372 rfl (lv_at hl 0 rfl) ?_
      refine h_get hx hb hown E hM (hp_m hY.n0) gC_X8 4 (by decide) (v := .ref (la 2 0)) rfl kw_1028 dX8_init_373 ?_
      refine lv_iload_n hx hb dX8_init_376 rfl (lv_at hl 3 rfl) ?_
      obtain ⟨c126, h⟩ := gchk_e h
      refine l_iald hx hb E hM (hp_m hY.n2) c126 (v := (gi ν107 2 x3.toNatClampNeg)) rfl dX8_init_377 ?_
      refine lv_if_ge (tgt := 386) hx hb dX8_init_378 (by decide) (fun c127 => ?_) (fun c127 => ?_)
      · replace h := gif_t c127 h
        refine h_new hx hb hown E hM hS gC_J4 kw_549 kw_550 kw_63 (fs := [.null, .int (0 : Int32), .int (0 : Int32), .int (0 : Int32)]) (by decide +kernel) (show _ ≤ 1876 by omega) (show _ ≤ 2285440 by omega) dX8_init_386 (fun a128 H hM hS => ?_)
        replace hM : hW D cy ad b μ (lws cy ad la ν107) ([(sa, sO va), (va, sV cy t9)] ++ sB cy a108 vb122 w123 (0 : Int32) s125 ++ [(a128, .inr (10, [.null, .int (0 : Int32), .int (0 : Int32), .int (0 : Int32)]))]) H := hM
        refine lv_dup hx hb dX8_init_389 rfl ?_
        replace hM := hW.right (X := ([(sa, sO va), (va, sV cy t9)] ++ sB cy a108 vb122 w123 (0 : Int32) s125)) (T := [(a128, .inr (10, [.null, .int (0 : Int32), .int (0 : Int32), .int (0 : Int32)]))]) hM
        refine h_callI (As := []) (rest := [.ref a128, .ref a108]) hx hb (hml.trans hl.1.symm) hown E hM hS xi_J4_init_da8c8 kw_551 c_binit rfl rfl (Nat.le_of_ble_eq_true rfl) ⟨(Nat.le_of_ble_eq_true rfl), (Nat.le_of_ble_eq_true rfl)⟩ ⟨(show _ ≤ 1876 by omega), (show _ ≤ 2285440 by omega)⟩ dX8_init_390 (fun rv H locs hZ hS => ?_)
        obtain ⟨vb129, rfl, hM⟩ := hZ
        replace hM := hW.left (X := ([(sa, sO va), (va, sV cy t9)] ++ sB cy a108 vb122 w123 (0 : Int32) s125)) (T := (sB cy a128 vb129 16 (0 : Int32) ([] : List Nat))) hM
        replace hM : hW D cy ad b μ (lws cy ad la ν107) ([(sa, sO va), (va, sV cy t9)] ++ sB cy a108 vb122 w123 (0 : Int32) s125 ++ sB cy a128 vb129 16 (0 : Int32) ([] : List Nat)) H := hM
        refine va_ldcS hx hb hown (E.2.2.2.2.2.2.2.2.2.2.2.1 3 (by decide)) dX8_init_393 ?_
        obtain ⟨c130, h⟩ := gchk_e h
        obtain ⟨s134, hs134, h⟩ := gnm h
        replace hM := hW.right (X := ([(sa, sO va), (va, sV cy t9)] ++ sB cy a108 vb122 w123 (0 : Int32) s125)) (T := (sB cy a128 vb129 16 (0 : Int32) ([] : List Nat))) hM
        refine h_callV (As := [.ref (ad (470 + 3))]) (rest := [.ref a108]) hx hb (hml.trans hl.1.symm) hown E hM hS xy_J4_append_15ec4 kw_581 (c_appS (sSrc_k (by decide : 3 < 9)) c130 (show ([] : List Nat).length ≤ 16 by decide) (show 16 ≤ 2056 by decide)) (ht_m List.mem_cons_self) gC_J4.1 rfl rfl (Nat.le_of_ble_eq_true rfl) ⟨(Nat.le_of_ble_eq_true rfl), (Nat.le_of_ble_eq_true rfl)⟩ ⟨(show _ ≤ 1876 by omega), (show _ ≤ 2285440 by omega)⟩ dX8_init_395 (fun rv H locs hZ hS => ?_)
        obtain ⟨vb131, w132, rfl, he133, hM⟩ := hZ
        rw [← hs134] at hM he133
        replace hM := hW.left (X := ([(sa, sO va), (va, sV cy t9)] ++ sB cy a108 vb122 w123 (0 : Int32) s125)) hM
        replace hM : hW D cy ad b μ (lws cy ad la ν107) ([(sa, sO va), (va, sV cy t9)] ++ sB cy a108 vb122 w123 (0 : Int32) s125 ++ sB cy a128 vb131 w132 (0 : Int32) s134) H := hM
        refine lv_aload_n hx hb dX8_init_398 rfl (lv_at hl 0 rfl) ?_
        refine h_get hx hb hown E hM (hp_m hY.n0) gC_X8 4 (by decide) (v := .ref (la 2 0)) rfl kw_1028 dX8_init_399 ?_
        refine lv_iload_n hx hb dX8_init_402 rfl (lv_at hl 3 rfl) ?_
        obtain ⟨c135, h⟩ := gchk_e h
        refine l_iald hx hb E hM (hp_m hY.n2) c135 (v := (gi ν107 2 x3.toNatClampNeg)) rfl dX8_init_403 ?_
        obtain ⟨c136, h⟩ := gchk_e h
        obtain ⟨s140, hs140, h⟩ := gnm h
        replace hM := hW.right (X := ([(sa, sO va), (va, sV cy t9)] ++ sB cy a108 vb122 w123 (0 : Int32) s125)) (T := (sB cy a128 vb131 w132 (0 : Int32) s134)) hM
        refine h_callV (As := [.int (gi ν107 2 x3.toNatClampNeg)]) (rest := [.ref a108]) hx hb (hml.trans hl.1.symm) hown E hM hS xy_J4_append_bf812 kw_699 (by have h9 := c_appI (l := l) (D := D) (cy := cy) (ad := ad) (b := b) (μ := μ) (P := ((lws cy ad la ν107) ++ ([(sa, sO va), (va, sV cy t9)] ++ sB cy a108 vb122 w123 (0 : Int32) s125))) (ba := a128) (vb := vb131) (w := w132) (ml := 0) (U := s134) c136.1.2 c136.2 he133.1 he133.2; rwa [← gIn_e c136.1] at h9) (ht_m List.mem_cons_self) gC_J4.1 rfl rfl (Nat.le_of_ble_eq_true rfl) ⟨(Nat.le_of_ble_eq_true rfl), (Nat.le_of_ble_eq_true rfl)⟩ ⟨(show _ ≤ 1876 by omega), (show _ ≤ 2285440 by omega)⟩ dX8_init_404 (fun rv H locs hZ hS => ?_)
        obtain ⟨vb137, w138, rfl, he139, hM⟩ := hZ
        rw [← hs140] at hM he139
        replace hM := hW.left (X := ([(sa, sO va), (va, sV cy t9)] ++ sB cy a108 vb122 w123 (0 : Int32) s125)) hM
        replace hM : hW D cy ad b μ (lws cy ad la ν107) ([(sa, sO va), (va, sV cy t9)] ++ sB cy a108 vb122 w123 (0 : Int32) s125 ++ sB cy a128 vb137 w138 (0 : Int32) s140) H := hM
        refine va_ldcS hx hb hown (E.2.2.2.2.2.2.2.2.2.2.2.1 1 (by decide)) dX8_init_407 ?_
        obtain ⟨c141, h⟩ := gchk_e h
        obtain ⟨s145, hs145, h⟩ := gnm h
        replace hM := hW.right (X := ([(sa, sO va), (va, sV cy t9)] ++ sB cy a108 vb122 w123 (0 : Int32) s125)) (T := (sB cy a128 vb137 w138 (0 : Int32) s140)) hM
        refine h_callV (As := [.ref (ad (470 + 1))]) (rest := [.ref a108]) hx hb (hml.trans hl.1.symm) hown E hM hS xy_J4_append_15ec4 kw_581 (c_appS (sSrc_k (by decide : 1 < 9)) c141 he139.1 he139.2) (ht_m List.mem_cons_self) gC_J4.1 rfl rfl (Nat.le_of_ble_eq_true rfl) ⟨(Nat.le_of_ble_eq_true rfl), (Nat.le_of_ble_eq_true rfl)⟩ ⟨(show _ ≤ 1876 by omega), (show _ ≤ 2285440 by omega)⟩ dX8_init_409 (fun rv H locs hZ hS => ?_)
        obtain ⟨vb142, w143, rfl, he144, hM⟩ := hZ
        rw [← hs145] at hM he144
        replace hM := hW.left (X := ([(sa, sO va), (va, sV cy t9)] ++ sB cy a108 vb122 w123 (0 : Int32) s125)) hM
        replace hM : hW D cy ad b μ (lws cy ad la ν107) ([(sa, sO va), (va, sV cy t9)] ++ sB cy a108 vb122 w123 (0 : Int32) s125 ++ sB cy a128 vb142 w143 (0 : Int32) s145) H := hM
        replace hM := hW.right (X := ([(sa, sO va), (va, sV cy t9)] ++ sB cy a108 vb122 w123 (0 : Int32) s125)) (T := (sB cy a128 vb142 w143 (0 : Int32) s145)) hM
        refine h_callV (As := []) (rest := [.ref a108]) hx hb (hml.trans hl.1.symm) hown E hM hS xy_J4_toString_0e30d kw_725 (c_toS he144.1 he144.2) (ht_m List.mem_cons_self) gC_J4.1 rfl rfl (Nat.le_of_ble_eq_true rfl) ⟨(Nat.le_of_ble_eq_true rfl), (Nat.le_of_ble_eq_true rfl)⟩ ⟨(show _ ≤ 1876 by omega), (show _ ≤ 2285440 by omega)⟩ dX8_init_412 (fun rv H locs hZ hS => ?_)
        obtain ⟨a147, va148, rfl, hM⟩ := hZ
        replace hM := hW.left (X := ([(sa, sO va), (va, sV cy t9)] ++ sB cy a108 vb122 w123 (0 : Int32) s125)) hM
        replace hM := hW.cutM (A := ([(sa, sO va), (va, sV cy t9)] ++ sB cy a108 vb122 w123 (0 : Int32) s125)) hM
        replace hM : hW D cy ad b μ (lws cy ad la ν107) ([(sa, sO va), (va, sV cy t9)] ++ sB cy a108 vb122 w123 (0 : Int32) s125 ++ [(a147, sO va148), (va148, sV cy s145)]) H := hM
        replace hM : hW D cy ad b μ (lws cy ad la ν107) ([(sa, sO va), (va, sV cy t9), (a147, sO va148), (va148, sV cy s145)] ++ sB cy a108 vb122 w123 (0 : Int32) s125) H := hW.perm (List.Perm.append_left _ (by exact perm3 (A := [(sa, sO va), (va, sV cy t9)]) (B := (sB cy a108 vb122 w123 (0 : Int32) s125)) (C := [(a147, sO va148), (va148, sV cy s145)]))) hM
        obtain ⟨c149, h⟩ := gchk_e h
        obtain ⟨s153, hs153, h⟩ := gnm h
        replace hM := hW.right (X := [(sa, sO va), (va, sV cy t9), (a147, sO va148), (va148, sV cy s145)]) (T := (sB cy a108 vb122 w123 (0 : Int32) s125)) hM
        refine h_callV (As := [.ref a147]) (rest := []) hx hb (hml.trans hl.1.symm) hown E hM hS xy_J4_append_15ec4 kw_581 (c_appS (Or.inr ⟨List.mem_append_right _ (List.mem_of_getElem? (i := 2) rfl), List.mem_append_right _ (List.mem_of_getElem? (i := 3) rfl)⟩) c149 he124.1 he124.2) (ht_m List.mem_cons_self) gC_J4.1 rfl rfl (Nat.le_of_ble_eq_true rfl) ⟨(Nat.le_of_ble_eq_true rfl), (Nat.le_of_ble_eq_true rfl)⟩ ⟨(show _ ≤ 1876 by omega), (show _ ≤ 2285440 by omega)⟩ dX8_init_415 (fun rv H locs hZ hS => ?_)
        obtain ⟨vb150, w151, rfl, he152, hM⟩ := hZ
        rw [← hs153] at hM he152
        replace hM := hW.left (X := [(sa, sO va), (va, sV cy t9), (a147, sO va148), (va148, sV cy s145)]) hM
        replace hM : hW D cy ad b μ (lws cy ad la ν107) ([(sa, sO va), (va, sV cy t9), (a147, sO va148), (va148, sV cy s145)] ++ sB cy a108 vb150 w151 (0 : Int32) s153) H := hM
        replace hM := hW.right (X := [(sa, sO va), (va, sV cy t9), (a147, sO va148), (va148, sV cy s145)]) (T := (sB cy a108 vb150 w151 (0 : Int32) s153)) hM
        refine h_callV (As := []) (rest := []) hx hb (hml.trans hl.1.symm) hown E hM hS xy_J4_toString_0e30d kw_725 (c_toS he152.1 he152.2) (ht_m List.mem_cons_self) gC_J4.1 rfl rfl (Nat.le_of_ble_eq_true rfl) ⟨(Nat.le_of_ble_eq_true rfl), (Nat.le_of_ble_eq_true rfl)⟩ ⟨(show _ ≤ 1876 by omega), (show _ ≤ 2285440 by omega)⟩ dX8_init_418 (fun rv H locs hZ hS => ?_)
        obtain ⟨a155, va156, rfl, hM⟩ := hZ
        replace hM := hW.left (X := [(sa, sO va), (va, sV cy t9), (a147, sO va148), (va148, sV cy s145)]) hM
        replace hM := hW.cutM (A := [(sa, sO va), (va, sV cy t9), (a147, sO va148), (va148, sV cy s145)]) hM
        replace hM : hW D cy ad b μ (lws cy ad la ν107) [(sa, sO va), (va, sV cy t9), (a147, sO va148), (va148, sV cy s145), (a155, sO va156), (va156, sV cy s153)] H := hM
        refine lv_astore_n (lv' := [(2, .ref a155), (0, .ref (la 0 0)), (1, .ref (ad 465)), (3, .int x3)]) hx hb dX8_init_421 rfl hl (by decide) rfl (fun ls hl => ?_)
        refine lv_iinc (v := (x3 + (1 : Int32))) (lv' := [(3, .int (x3 + (1 : Int32))), (2, .ref a155), (0, .ref (la 0 0)), (1, .ref (ad 465))]) hx hb dX8_init_422 hl (k := 3) rfl rfl (by decide) rfl (fun ls hl => ?_)
        refine lv_goto (tgt := 302) hx hb dX8_init_425 (by decide) ?_
        replace hM := hW.cut0 (B := [(sa, sO va), (va, sV cy t9)]) (C := [(a147, sO va148), (va148, sV cy s145), (a155, sO va156), (va156, sV cy s153)]) hM
        replace hM : hW D cy ad b μ (lws cy ad la ν107) [(a147, sO va148), (va148, sV cy s145), (a155, sO va156), (va156, sV cy s153)] H := hM
        replace hM := hW.cut0 (B := [(a147, sO va148), (va148, sV cy s145)]) (C := [(a155, sO va156), (va156, sV cy s153)]) hM
        replace hM : hW D cy ad b μ (lws cy ad la ν107) [(a155, sO va156), (va156, sV cy s153)] H := hM
        refine W.widen (k := C0) (n := S0) (by omega) (by omega) ?_
        exact kc _ (Option.some.inj h).symm hs hoo hM hS (lv_sub hl [2, 3, 1, 0] rfl)
      · replace h := gif_f c127 h
        refine va_ldcS hx hb hown (E.2.2.2.2.2.2.2.2.2.2.2.1 1 (by decide)) dX8_init_381 ?_
        refine lv_goto (tgt := 415) hx hb dX8_init_383 (by decide) ?_
        obtain ⟨c157, h⟩ := gchk_e h
        obtain ⟨s161, hs161, h⟩ := gnm h
        replace hM := hW.right (X := [(sa, sO va), (va, sV cy t9)]) (T := (sB cy a108 vb122 w123 (0 : Int32) s125)) hM
        refine h_callV (As := [.ref (ad (470 + 1))]) (rest := []) hx hb (hml.trans hl.1.symm) hown E hM hS xy_J4_append_15ec4 kw_581 (c_appS (sSrc_k (by decide : 1 < 9)) c157 he124.1 he124.2) (ht_m List.mem_cons_self) gC_J4.1 rfl rfl (Nat.le_of_ble_eq_true rfl) ⟨(Nat.le_of_ble_eq_true rfl), (Nat.le_of_ble_eq_true rfl)⟩ ⟨(show _ ≤ 1876 by omega), (show _ ≤ 2285440 by omega)⟩ dX8_init_415 (fun rv H locs hZ hS => ?_)
        obtain ⟨vb158, w159, rfl, he160, hM⟩ := hZ
        rw [← hs161] at hM he160
        replace hM := hW.left (X := [(sa, sO va), (va, sV cy t9)]) hM
        replace hM : hW D cy ad b μ (lws cy ad la ν107) ([(sa, sO va), (va, sV cy t9)] ++ sB cy a108 vb158 w159 (0 : Int32) s161) H := hM
        replace hM := hW.right (X := [(sa, sO va), (va, sV cy t9)]) (T := (sB cy a108 vb158 w159 (0 : Int32) s161)) hM
        refine h_callV (As := []) (rest := []) hx hb (hml.trans hl.1.symm) hown E hM hS xy_J4_toString_0e30d kw_725 (c_toS he160.1 he160.2) (ht_m List.mem_cons_self) gC_J4.1 rfl rfl (Nat.le_of_ble_eq_true rfl) ⟨(Nat.le_of_ble_eq_true rfl), (Nat.le_of_ble_eq_true rfl)⟩ ⟨(show _ ≤ 1876 by omega), (show _ ≤ 2285440 by omega)⟩ dX8_init_418 (fun rv H locs hZ hS => ?_)
        obtain ⟨a163, va164, rfl, hM⟩ := hZ
        replace hM := hW.left (X := [(sa, sO va), (va, sV cy t9)]) hM
        replace hM := hW.cutM (A := [(sa, sO va), (va, sV cy t9)]) hM
        replace hM : hW D cy ad b μ (lws cy ad la ν107) [(sa, sO va), (va, sV cy t9), (a163, sO va164), (va164, sV cy s161)] H := hM
        refine lv_astore_n (lv' := [(2, .ref a163), (0, .ref (la 0 0)), (1, .ref (ad 465)), (3, .int x3)]) hx hb dX8_init_421 rfl hl (by decide) rfl (fun ls hl => ?_)
        refine lv_iinc (v := (x3 + (1 : Int32))) (lv' := [(3, .int (x3 + (1 : Int32))), (2, .ref a163), (0, .ref (la 0 0)), (1, .ref (ad 465))]) hx hb dX8_init_422 hl (k := 3) rfl rfl (by decide) rfl (fun ls hl => ?_)
        refine lv_goto (tgt := 302) hx hb dX8_init_425 (by decide) ?_
        replace hM := hW.cut0 (B := [(sa, sO va), (va, sV cy t9)]) (C := [(a163, sO va164), (va164, sV cy s161)]) hM
        replace hM : hW D cy ad b μ (lws cy ad la ν107) [(a163, sO va164), (va164, sV cy s161)] H := hM
        refine W.widen (k := C0) (n := S0) (by omega) (by omega) ?_
        exact kc _ (Option.some.inj h).symm hs hoo hM hS (lv_sub hl [2, 3, 1, 0] rfl)
    · replace h := gif_t c105 h
      refine lv_aload_n hx hb dX8_init_331 rfl (lv_at hl 1 rfl) ?_
      refine lv_iconst (v := (2 : Int32)) hx hb dX8_init_332 (by decide) ?_
      replace hM := hW.low (T := [(sa, sO va), (va, sV cy t9)]) hM
      refine h_callSN (As := [.ref (ad 465), .int (2 : Int32)]) (rest := [.int x3, .ref (la 2 0)]) hx hb (hml.trans hl.1.symm) hown E hM hS xs_L_cell (E.2.1.2.2.1 _ (List.mem_of_getElem? (i := 0) rfl)) (c_cell (k := 2) (by decide)) rfl rfl (Nat.le_of_ble_eq_true rfl) ⟨(Nat.le_of_ble_eq_true rfl), (Nat.le_of_ble_eq_true rfl)⟩ ⟨(show _ ≤ 1876 by omega), (show _ ≤ 2285440 by omega)⟩ dX8_init_333 (fun rv H locs hZ hS => ?_)
      obtain ⟨rfl, hM⟩ := hZ
      replace hM := hW.up (T := [(sa, sO va), (va, sV cy t9)]) hM
      replace hM : hW D cy ad b μ (lws cy ad la ν) [(sa, sO va), (va, sV cy t9)] H := hM
      refine lv_iload_n hx hb dX8_init_336 rfl (lv_at hl 3 rfl) ?_
      refine lv_ishr hx hb dX8_init_337 ?_
      refine lv_ldc hx hb hown (v := (200000 : Int32)) (E.kw kw_813) dX8_init_338 ?_
      obtain ⟨q165, hq165, h⟩ := gbind_e h
      refine h_callSCN (As := [.int ((scr ad 2) >>> (x3 &&& 31)), .int (200000 : Int32)]) (rest := [.int x3, .ref (la 2 0)]) hx hb (hml.trans hl.1.symm) hown E hM hS hy_L_mod (E.2.1.2.2.1 _ (List.mem_of_getElem? (i := 1) rfl)) (c_L_mod hq165) rfl rfl (Nat.le_of_ble_eq_true rfl) ⟨(Nat.le_of_ble_eq_true rfl), (Nat.le_of_ble_eq_true rfl)⟩ ⟨(show _ ≤ 1876 by omega), (show _ ≤ 2285440 by omega)⟩ dX8_init_340 (fun H locs hM hS => ?_)
      refine lv_goto (tgt := 347) hx hb dX8_init_343 (by decide) ?_
      obtain ⟨c166, h⟩ := gchk_e h
      refine lw_held hx hb E hs hM hS c166 dX8_init_347 (fun H locs hM hS => ?_)
      obtain ⟨ν167, hν167, h⟩ := gupd h
      rw [← hν167] at hM
      replace hs : lS ν167 := by rw [hν167]; exact (si_S (by unfold okid; omega) hs)
      have hY := lY0_self (cy := cy) (ad := ad) (la := la) hs
      refine h_new hx hb hown E hM hS gC_J4 kw_549 kw_550 kw_63 (fs := [.null, .int (0 : Int32), .int (0 : Int32), .int (0 : Int32)]) (by decide +kernel) (show _ ≤ 1876 by omega) (show _ ≤ 2285440 by omega) dX8_init_348 (fun a168 H hM hS => ?_)
      replace hM : hW D cy ad b μ (lws cy ad la ν167) [(sa, sO va), (va, sV cy t9), (a168, .inr (10, [.null, .int (0 : Int32), .int (0 : Int32), .int (0 : Int32)]))] H := hM
      refine lv_dup hx hb dX8_init_351 rfl ?_
      replace hM := hW.right (X := [(sa, sO va), (va, sV cy t9)]) (T := [(a168, .inr (10, [.null, .int (0 : Int32), .int (0 : Int32), .int (0 : Int32)]))]) hM
      refine h_callI (As := []) (rest := [.ref a168]) hx hb (hml.trans hl.1.symm) hown E hM hS xi_J4_init_da8c8 kw_551 c_binit rfl rfl (Nat.le_of_ble_eq_true rfl) ⟨(Nat.le_of_ble_eq_true rfl), (Nat.le_of_ble_eq_true rfl)⟩ ⟨(show _ ≤ 1876 by omega), (show _ ≤ 2285440 by omega)⟩ dX8_init_352 (fun rv H locs hZ hS => ?_)
      obtain ⟨vb169, rfl, hM⟩ := hZ
      replace hM := hW.left (X := [(sa, sO va), (va, sV cy t9)]) (T := (sB cy a168 vb169 16 (0 : Int32) ([] : List Nat))) hM
      replace hM : hW D cy ad b μ (lws cy ad la ν167) ([(sa, sO va), (va, sV cy t9)] ++ sB cy a168 vb169 16 (0 : Int32) ([] : List Nat)) H := hM
      refine lv_aload_n hx hb dX8_init_355 rfl (lv_at hl 2 rfl) ?_
      obtain ⟨c170, h⟩ := gchk_e h
      obtain ⟨s174, hs174, h⟩ := gnm h
      replace hM := hW.right (X := [(sa, sO va), (va, sV cy t9)]) (T := (sB cy a168 vb169 16 (0 : Int32) ([] : List Nat))) hM
      refine h_callV (As := [.ref sa]) (rest := []) hx hb (hml.trans hl.1.symm) hown E hM hS xy_J4_append_15ec4 kw_581 (c_appS (Or.inr ⟨List.mem_append_right _ (List.mem_of_getElem? (i := 0) rfl), List.mem_append_right _ (List.mem_of_getElem? (i := 1) rfl)⟩) c170 (show ([] : List Nat).length ≤ 16 by decide) (show 16 ≤ 2056 by decide)) (ht_m List.mem_cons_self) gC_J4.1 rfl rfl (Nat.le_of_ble_eq_true rfl) ⟨(Nat.le_of_ble_eq_true rfl), (Nat.le_of_ble_eq_true rfl)⟩ ⟨(show _ ≤ 1876 by omega), (show _ ≤ 2285440 by omega)⟩ dX8_init_356 (fun rv H locs hZ hS => ?_)
      obtain ⟨vb171, w172, rfl, he173, hM⟩ := hZ
      rw [← hs174] at hM he173
      replace hM := hW.left (X := [(sa, sO va), (va, sV cy t9)]) hM
      replace hM : hW D cy ad b μ (lws cy ad la ν167) ([(sa, sO va), (va, sV cy t9)] ++ sB cy a168 vb171 w172 (0 : Int32) s174) H := hM
      refine va_ldcS hx hb hown (E.2.2.2.2.2.2.2.2.2.2.2.1 5 (by decide)) dX8_init_359 ?_
      obtain ⟨c175, h⟩ := gchk_e h
      obtain ⟨s179, hs179, h⟩ := gnm h
      replace hM := hW.right (X := [(sa, sO va), (va, sV cy t9)]) (T := (sB cy a168 vb171 w172 (0 : Int32) s174)) hM
      refine h_callV (As := [.ref (ad (470 + 5))]) (rest := []) hx hb (hml.trans hl.1.symm) hown E hM hS xy_J4_append_15ec4 kw_581 (c_appS (sSrc_k (by decide : 5 < 9)) c175 he173.1 he173.2) (ht_m List.mem_cons_self) gC_J4.1 rfl rfl (Nat.le_of_ble_eq_true rfl) ⟨(Nat.le_of_ble_eq_true rfl), (Nat.le_of_ble_eq_true rfl)⟩ ⟨(show _ ≤ 1876 by omega), (show _ ≤ 2285440 by omega)⟩ dX8_init_361 (fun rv H locs hZ hS => ?_)
      obtain ⟨vb176, w177, rfl, he178, hM⟩ := hZ
      rw [← hs179] at hM he178
      replace hM := hW.left (X := [(sa, sO va), (va, sV cy t9)]) hM
      replace hM : hW D cy ad b μ (lws cy ad la ν167) ([(sa, sO va), (va, sV cy t9)] ++ sB cy a168 vb176 w177 (0 : Int32) s179) H := hM
      refine lv_bipush (v := (97 : Int32)) hx hb dX8_init_364 (by decide) ?_
      refine lv_iload_n hx hb dX8_init_366 rfl (lv_at hl 3 rfl) ?_
      refine lv_iadd hx hb dX8_init_367 ?_
      obtain ⟨c180, h⟩ := gchk_e h
      refine lv_i2c (v := ((97 : Int32) + x3)) hx hb dX8_init_368 (x_i2c c180) ?_
      obtain ⟨c181, h⟩ := gchk_e h
      obtain ⟨s185, hs185, h⟩ := gnm h
      replace hM := hW.right (X := [(sa, sO va), (va, sV cy t9)]) (T := (sB cy a168 vb176 w177 (0 : Int32) s179)) hM
      refine h_callV (As := [.int ((97 : Int32) + x3)]) (rest := []) hx hb (hml.trans hl.1.symm) hown E hM hS xy_J4_append_cf468 kw_786 (by have h9 := c_appC (l := l) (D := D) (cy := cy) (ad := ad) (b := b) (μ := μ) (P := ((lws cy ad la ν167) ++ [(sa, sO va), (va, sV cy t9)])) (ba := a168) (vb := vb176) (w := w177) (ml := 0) (U := s179) c181.1.2 c181.2 he178.1 he178.2; rwa [← gIn_e c181.1] at h9) (ht_m List.mem_cons_self) gC_J4.1 rfl rfl (Nat.le_of_ble_eq_true rfl) ⟨(Nat.le_of_ble_eq_true rfl), (Nat.le_of_ble_eq_true rfl)⟩ ⟨(show _ ≤ 1876 by omega), (show _ ≤ 2285440 by omega)⟩ dX8_init_369 (fun rv H locs hZ hS => ?_)
      obtain ⟨vb182, w183, rfl, he184, hM⟩ := hZ
      rw [← hs185] at hM he184
      replace hM := hW.left (X := [(sa, sO va), (va, sV cy t9)]) hM
      replace hM : hW D cy ad b μ (lws cy ad la ν167) ([(sa, sO va), (va, sV cy t9)] ++ sB cy a168 vb182 w183 (0 : Int32) s185) H := hM
      refine lv_aload_n hx hb dX8_init_372 rfl (lv_at hl 0 rfl) ?_
      refine h_get hx hb hown E hM (hp_m hY.n0) gC_X8 4 (by decide) (v := .ref (la 2 0)) rfl kw_1028 dX8_init_373 ?_
      refine lv_iload_n hx hb dX8_init_376 rfl (lv_at hl 3 rfl) ?_
      obtain ⟨c186, h⟩ := gchk_e h
      refine l_iald hx hb E hM (hp_m hY.n2) c186 (v := (gi ν167 2 x3.toNatClampNeg)) rfl dX8_init_377 ?_
      refine lv_if_ge (tgt := 386) hx hb dX8_init_378 (by decide) (fun c187 => ?_) (fun c187 => ?_)
      · replace h := gif_t c187 h
        refine h_new hx hb hown E hM hS gC_J4 kw_549 kw_550 kw_63 (fs := [.null, .int (0 : Int32), .int (0 : Int32), .int (0 : Int32)]) (by decide +kernel) (show _ ≤ 1876 by omega) (show _ ≤ 2285440 by omega) dX8_init_386 (fun a188 H hM hS => ?_)
        replace hM : hW D cy ad b μ (lws cy ad la ν167) ([(sa, sO va), (va, sV cy t9)] ++ sB cy a168 vb182 w183 (0 : Int32) s185 ++ [(a188, .inr (10, [.null, .int (0 : Int32), .int (0 : Int32), .int (0 : Int32)]))]) H := hM
        refine lv_dup hx hb dX8_init_389 rfl ?_
        replace hM := hW.right (X := ([(sa, sO va), (va, sV cy t9)] ++ sB cy a168 vb182 w183 (0 : Int32) s185)) (T := [(a188, .inr (10, [.null, .int (0 : Int32), .int (0 : Int32), .int (0 : Int32)]))]) hM
        refine h_callI (As := []) (rest := [.ref a188, .ref a168]) hx hb (hml.trans hl.1.symm) hown E hM hS xi_J4_init_da8c8 kw_551 c_binit rfl rfl (Nat.le_of_ble_eq_true rfl) ⟨(Nat.le_of_ble_eq_true rfl), (Nat.le_of_ble_eq_true rfl)⟩ ⟨(show _ ≤ 1876 by omega), (show _ ≤ 2285440 by omega)⟩ dX8_init_390 (fun rv H locs hZ hS => ?_)
        obtain ⟨vb189, rfl, hM⟩ := hZ
        replace hM := hW.left (X := ([(sa, sO va), (va, sV cy t9)] ++ sB cy a168 vb182 w183 (0 : Int32) s185)) (T := (sB cy a188 vb189 16 (0 : Int32) ([] : List Nat))) hM
        replace hM : hW D cy ad b μ (lws cy ad la ν167) ([(sa, sO va), (va, sV cy t9)] ++ sB cy a168 vb182 w183 (0 : Int32) s185 ++ sB cy a188 vb189 16 (0 : Int32) ([] : List Nat)) H := hM
        refine va_ldcS hx hb hown (E.2.2.2.2.2.2.2.2.2.2.2.1 3 (by decide)) dX8_init_393 ?_
        obtain ⟨c190, h⟩ := gchk_e h
        obtain ⟨s194, hs194, h⟩ := gnm h
        replace hM := hW.right (X := ([(sa, sO va), (va, sV cy t9)] ++ sB cy a168 vb182 w183 (0 : Int32) s185)) (T := (sB cy a188 vb189 16 (0 : Int32) ([] : List Nat))) hM
        refine h_callV (As := [.ref (ad (470 + 3))]) (rest := [.ref a168]) hx hb (hml.trans hl.1.symm) hown E hM hS xy_J4_append_15ec4 kw_581 (c_appS (sSrc_k (by decide : 3 < 9)) c190 (show ([] : List Nat).length ≤ 16 by decide) (show 16 ≤ 2056 by decide)) (ht_m List.mem_cons_self) gC_J4.1 rfl rfl (Nat.le_of_ble_eq_true rfl) ⟨(Nat.le_of_ble_eq_true rfl), (Nat.le_of_ble_eq_true rfl)⟩ ⟨(show _ ≤ 1876 by omega), (show _ ≤ 2285440 by omega)⟩ dX8_init_395 (fun rv H locs hZ hS => ?_)
        obtain ⟨vb191, w192, rfl, he193, hM⟩ := hZ
        rw [← hs194] at hM he193
        replace hM := hW.left (X := ([(sa, sO va), (va, sV cy t9)] ++ sB cy a168 vb182 w183 (0 : Int32) s185)) hM
        replace hM : hW D cy ad b μ (lws cy ad la ν167) ([(sa, sO va), (va, sV cy t9)] ++ sB cy a168 vb182 w183 (0 : Int32) s185 ++ sB cy a188 vb191 w192 (0 : Int32) s194) H := hM
        refine lv_aload_n hx hb dX8_init_398 rfl (lv_at hl 0 rfl) ?_
        refine h_get hx hb hown E hM (hp_m hY.n0) gC_X8 4 (by decide) (v := .ref (la 2 0)) rfl kw_1028 dX8_init_399 ?_
        refine lv_iload_n hx hb dX8_init_402 rfl (lv_at hl 3 rfl) ?_
        obtain ⟨c195, h⟩ := gchk_e h
        refine l_iald hx hb E hM (hp_m hY.n2) c195 (v := (gi ν167 2 x3.toNatClampNeg)) rfl dX8_init_403 ?_
        obtain ⟨c196, h⟩ := gchk_e h
        obtain ⟨s200, hs200, h⟩ := gnm h
        replace hM := hW.right (X := ([(sa, sO va), (va, sV cy t9)] ++ sB cy a168 vb182 w183 (0 : Int32) s185)) (T := (sB cy a188 vb191 w192 (0 : Int32) s194)) hM
        refine h_callV (As := [.int (gi ν167 2 x3.toNatClampNeg)]) (rest := [.ref a168]) hx hb (hml.trans hl.1.symm) hown E hM hS xy_J4_append_bf812 kw_699 (by have h9 := c_appI (l := l) (D := D) (cy := cy) (ad := ad) (b := b) (μ := μ) (P := ((lws cy ad la ν167) ++ ([(sa, sO va), (va, sV cy t9)] ++ sB cy a168 vb182 w183 (0 : Int32) s185))) (ba := a188) (vb := vb191) (w := w192) (ml := 0) (U := s194) c196.1.2 c196.2 he193.1 he193.2; rwa [← gIn_e c196.1] at h9) (ht_m List.mem_cons_self) gC_J4.1 rfl rfl (Nat.le_of_ble_eq_true rfl) ⟨(Nat.le_of_ble_eq_true rfl), (Nat.le_of_ble_eq_true rfl)⟩ ⟨(show _ ≤ 1876 by omega), (show _ ≤ 2285440 by omega)⟩ dX8_init_404 (fun rv H locs hZ hS => ?_)
        obtain ⟨vb197, w198, rfl, he199, hM⟩ := hZ
        rw [← hs200] at hM he199
        replace hM := hW.left (X := ([(sa, sO va), (va, sV cy t9)] ++ sB cy a168 vb182 w183 (0 : Int32) s185)) hM
        replace hM : hW D cy ad b μ (lws cy ad la ν167) ([(sa, sO va), (va, sV cy t9)] ++ sB cy a168 vb182 w183 (0 : Int32) s185 ++ sB cy a188 vb197 w198 (0 : Int32) s200) H := hM
        refine va_ldcS hx hb hown (E.2.2.2.2.2.2.2.2.2.2.2.1 1 (by decide)) dX8_init_407 ?_
        obtain ⟨c201, h⟩ := gchk_e h
        obtain ⟨s205, hs205, h⟩ := gnm h
        replace hM := hW.right (X := ([(sa, sO va), (va, sV cy t9)] ++ sB cy a168 vb182 w183 (0 : Int32) s185)) (T := (sB cy a188 vb197 w198 (0 : Int32) s200)) hM
        refine h_callV (As := [.ref (ad (470 + 1))]) (rest := [.ref a168]) hx hb (hml.trans hl.1.symm) hown E hM hS xy_J4_append_15ec4 kw_581 (c_appS (sSrc_k (by decide : 1 < 9)) c201 he199.1 he199.2) (ht_m List.mem_cons_self) gC_J4.1 rfl rfl (Nat.le_of_ble_eq_true rfl) ⟨(Nat.le_of_ble_eq_true rfl), (Nat.le_of_ble_eq_true rfl)⟩ ⟨(show _ ≤ 1876 by omega), (show _ ≤ 2285440 by omega)⟩ dX8_init_409 (fun rv H locs hZ hS => ?_)
        obtain ⟨vb202, w203, rfl, he204, hM⟩ := hZ
        rw [← hs205] at hM he204
        replace hM := hW.left (X := ([(sa, sO va), (va, sV cy t9)] ++ sB cy a168 vb182 w183 (0 : Int32) s185)) hM
        replace hM : hW D cy ad b μ (lws cy ad la ν167) ([(sa, sO va), (va, sV cy t9)] ++ sB cy a168 vb182 w183 (0 : Int32) s185 ++ sB cy a188 vb202 w203 (0 : Int32) s205) H := hM
        replace hM := hW.right (X := ([(sa, sO va), (va, sV cy t9)] ++ sB cy a168 vb182 w183 (0 : Int32) s185)) (T := (sB cy a188 vb202 w203 (0 : Int32) s205)) hM
        refine h_callV (As := []) (rest := [.ref a168]) hx hb (hml.trans hl.1.symm) hown E hM hS xy_J4_toString_0e30d kw_725 (c_toS he204.1 he204.2) (ht_m List.mem_cons_self) gC_J4.1 rfl rfl (Nat.le_of_ble_eq_true rfl) ⟨(Nat.le_of_ble_eq_true rfl), (Nat.le_of_ble_eq_true rfl)⟩ ⟨(show _ ≤ 1876 by omega), (show _ ≤ 2285440 by omega)⟩ dX8_init_412 (fun rv H locs hZ hS => ?_)
        obtain ⟨a207, va208, rfl, hM⟩ := hZ
        replace hM := hW.left (X := ([(sa, sO va), (va, sV cy t9)] ++ sB cy a168 vb182 w183 (0 : Int32) s185)) hM
        replace hM := hW.cutM (A := ([(sa, sO va), (va, sV cy t9)] ++ sB cy a168 vb182 w183 (0 : Int32) s185)) hM
        replace hM : hW D cy ad b μ (lws cy ad la ν167) ([(sa, sO va), (va, sV cy t9)] ++ sB cy a168 vb182 w183 (0 : Int32) s185 ++ [(a207, sO va208), (va208, sV cy s205)]) H := hM
        replace hM : hW D cy ad b μ (lws cy ad la ν167) ([(sa, sO va), (va, sV cy t9), (a207, sO va208), (va208, sV cy s205)] ++ sB cy a168 vb182 w183 (0 : Int32) s185) H := hW.perm (List.Perm.append_left _ (by exact perm3 (A := [(sa, sO va), (va, sV cy t9)]) (B := (sB cy a168 vb182 w183 (0 : Int32) s185)) (C := [(a207, sO va208), (va208, sV cy s205)]))) hM
        obtain ⟨c209, h⟩ := gchk_e h
        obtain ⟨s213, hs213, h⟩ := gnm h
        replace hM := hW.right (X := [(sa, sO va), (va, sV cy t9), (a207, sO va208), (va208, sV cy s205)]) (T := (sB cy a168 vb182 w183 (0 : Int32) s185)) hM
        refine h_callV (As := [.ref a207]) (rest := []) hx hb (hml.trans hl.1.symm) hown E hM hS xy_J4_append_15ec4 kw_581 (c_appS (Or.inr ⟨List.mem_append_right _ (List.mem_of_getElem? (i := 2) rfl), List.mem_append_right _ (List.mem_of_getElem? (i := 3) rfl)⟩) c209 he184.1 he184.2) (ht_m List.mem_cons_self) gC_J4.1 rfl rfl (Nat.le_of_ble_eq_true rfl) ⟨(Nat.le_of_ble_eq_true rfl), (Nat.le_of_ble_eq_true rfl)⟩ ⟨(show _ ≤ 1876 by omega), (show _ ≤ 2285440 by omega)⟩ dX8_init_415 (fun rv H locs hZ hS => ?_)
        obtain ⟨vb210, w211, rfl, he212, hM⟩ := hZ
        rw [← hs213] at hM he212
        replace hM := hW.left (X := [(sa, sO va), (va, sV cy t9), (a207, sO va208), (va208, sV cy s205)]) hM
        replace hM : hW D cy ad b μ (lws cy ad la ν167) ([(sa, sO va), (va, sV cy t9), (a207, sO va208), (va208, sV cy s205)] ++ sB cy a168 vb210 w211 (0 : Int32) s213) H := hM
        replace hM := hW.right (X := [(sa, sO va), (va, sV cy t9), (a207, sO va208), (va208, sV cy s205)]) (T := (sB cy a168 vb210 w211 (0 : Int32) s213)) hM
        refine h_callV (As := []) (rest := []) hx hb (hml.trans hl.1.symm) hown E hM hS xy_J4_toString_0e30d kw_725 (c_toS he212.1 he212.2) (ht_m List.mem_cons_self) gC_J4.1 rfl rfl (Nat.le_of_ble_eq_true rfl) ⟨(Nat.le_of_ble_eq_true rfl), (Nat.le_of_ble_eq_true rfl)⟩ ⟨(show _ ≤ 1876 by omega), (show _ ≤ 2285440 by omega)⟩ dX8_init_418 (fun rv H locs hZ hS => ?_)
        obtain ⟨a215, va216, rfl, hM⟩ := hZ
        replace hM := hW.left (X := [(sa, sO va), (va, sV cy t9), (a207, sO va208), (va208, sV cy s205)]) hM
        replace hM := hW.cutM (A := [(sa, sO va), (va, sV cy t9), (a207, sO va208), (va208, sV cy s205)]) hM
        replace hM : hW D cy ad b μ (lws cy ad la ν167) [(sa, sO va), (va, sV cy t9), (a207, sO va208), (va208, sV cy s205), (a215, sO va216), (va216, sV cy s213)] H := hM
        refine lv_astore_n (lv' := [(2, .ref a215), (0, .ref (la 0 0)), (1, .ref (ad 465)), (3, .int x3)]) hx hb dX8_init_421 rfl hl (by decide) rfl (fun ls hl => ?_)
        refine lv_iinc (v := (x3 + (1 : Int32))) (lv' := [(3, .int (x3 + (1 : Int32))), (2, .ref a215), (0, .ref (la 0 0)), (1, .ref (ad 465))]) hx hb dX8_init_422 hl (k := 3) rfl rfl (by decide) rfl (fun ls hl => ?_)
        refine lv_goto (tgt := 302) hx hb dX8_init_425 (by decide) ?_
        replace hM := hW.cut0 (B := [(sa, sO va), (va, sV cy t9)]) (C := [(a207, sO va208), (va208, sV cy s205), (a215, sO va216), (va216, sV cy s213)]) hM
        replace hM : hW D cy ad b μ (lws cy ad la ν167) [(a207, sO va208), (va208, sV cy s205), (a215, sO va216), (va216, sV cy s213)] H := hM
        replace hM := hW.cut0 (B := [(a207, sO va208), (va208, sV cy s205)]) (C := [(a215, sO va216), (va216, sV cy s213)]) hM
        replace hM : hW D cy ad b μ (lws cy ad la ν167) [(a215, sO va216), (va216, sV cy s213)] H := hM
        refine W.widen (k := C0) (n := S0) (by omega) (by omega) ?_
        exact kc _ (Option.some.inj h).symm hs hoo hM hS (lv_sub hl [2, 3, 1, 0] rfl)
      · replace h := gif_f c187 h
        refine va_ldcS hx hb hown (E.2.2.2.2.2.2.2.2.2.2.2.1 1 (by decide)) dX8_init_381 ?_
        refine lv_goto (tgt := 415) hx hb dX8_init_383 (by decide) ?_
        obtain ⟨c217, h⟩ := gchk_e h
        obtain ⟨s221, hs221, h⟩ := gnm h
        replace hM := hW.right (X := [(sa, sO va), (va, sV cy t9)]) (T := (sB cy a168 vb182 w183 (0 : Int32) s185)) hM
        refine h_callV (As := [.ref (ad (470 + 1))]) (rest := []) hx hb (hml.trans hl.1.symm) hown E hM hS xy_J4_append_15ec4 kw_581 (c_appS (sSrc_k (by decide : 1 < 9)) c217 he184.1 he184.2) (ht_m List.mem_cons_self) gC_J4.1 rfl rfl (Nat.le_of_ble_eq_true rfl) ⟨(Nat.le_of_ble_eq_true rfl), (Nat.le_of_ble_eq_true rfl)⟩ ⟨(show _ ≤ 1876 by omega), (show _ ≤ 2285440 by omega)⟩ dX8_init_415 (fun rv H locs hZ hS => ?_)
        obtain ⟨vb218, w219, rfl, he220, hM⟩ := hZ
        rw [← hs221] at hM he220
        replace hM := hW.left (X := [(sa, sO va), (va, sV cy t9)]) hM
        replace hM : hW D cy ad b μ (lws cy ad la ν167) ([(sa, sO va), (va, sV cy t9)] ++ sB cy a168 vb218 w219 (0 : Int32) s221) H := hM
        replace hM := hW.right (X := [(sa, sO va), (va, sV cy t9)]) (T := (sB cy a168 vb218 w219 (0 : Int32) s221)) hM
        refine h_callV (As := []) (rest := []) hx hb (hml.trans hl.1.symm) hown E hM hS xy_J4_toString_0e30d kw_725 (c_toS he220.1 he220.2) (ht_m List.mem_cons_self) gC_J4.1 rfl rfl (Nat.le_of_ble_eq_true rfl) ⟨(Nat.le_of_ble_eq_true rfl), (Nat.le_of_ble_eq_true rfl)⟩ ⟨(show _ ≤ 1876 by omega), (show _ ≤ 2285440 by omega)⟩ dX8_init_418 (fun rv H locs hZ hS => ?_)
        obtain ⟨a223, va224, rfl, hM⟩ := hZ
        replace hM := hW.left (X := [(sa, sO va), (va, sV cy t9)]) hM
        replace hM := hW.cutM (A := [(sa, sO va), (va, sV cy t9)]) hM
        replace hM : hW D cy ad b μ (lws cy ad la ν167) [(sa, sO va), (va, sV cy t9), (a223, sO va224), (va224, sV cy s221)] H := hM
        refine lv_astore_n (lv' := [(2, .ref a223), (0, .ref (la 0 0)), (1, .ref (ad 465)), (3, .int x3)]) hx hb dX8_init_421 rfl hl (by decide) rfl (fun ls hl => ?_)
        refine lv_iinc (v := (x3 + (1 : Int32))) (lv' := [(3, .int (x3 + (1 : Int32))), (2, .ref a223), (0, .ref (la 0 0)), (1, .ref (ad 465))]) hx hb dX8_init_422 hl (k := 3) rfl rfl (by decide) rfl (fun ls hl => ?_)
        refine lv_goto (tgt := 302) hx hb dX8_init_425 (by decide) ?_
        replace hM := hW.cut0 (B := [(sa, sO va), (va, sV cy t9)]) (C := [(a223, sO va224), (va224, sV cy s221)]) hM
        replace hM : hW D cy ad b μ (lws cy ad la ν167) [(a223, sO va224), (va224, sV cy s221)] H := hM
        refine W.widen (k := C0) (n := S0) (by omega) (by omega) ?_
        exact kc _ (Option.some.inj h).symm hs hoo hM hS (lv_sub hl [2, 3, 1, 0] rfl)
set_option maxHeartbeats 4000000 in
theorem wl_Ln_302 {p : Program} {l : Launch} {e : Env} {s : State} {m : MethodId} {args : Array Value} {below : List Frame} {meth : Method} {c : Code} {D : va_G} {cy : Nat → ClassId} {ad : Nat → Nat} {b o0 : Nat} {μ : gM} {r : List Nat × gM} {Q : State → Prop} {CM SM : Nat} (F : gF p s m meth c cX8_init RX8 4 none) (E : hE l D cy ad b s) (hcm : CM ≤ 1876) (hsm : SM ≤ 2285440) (kx : ∀ (t : List Nat × gM) {la1 : Nat → Nat → Nat} {sa1 va1 : Nat} {H : Heap} {locs : List Loc} {ls : Array Slot}, r = t → lS t.2 → la1 0 0 = o0 → hW D cy ad b μ (lws cy ad la1 t.2) [(sa1, sO va1), (va1, sV cy t.1)] H → va_S (hA b) s.heap H locs → lv_has ls 4 [(0, .ref (la1 0 0)), (1, .ref (ad 465)), (2, .ref sa1)] → W p l e ({ frames := 8, cells := 1876, slots := 2285440, locals := 202 } : Room) s m args below meth c H locs CM SM Q (F0 m 428 ls [])) : ∀ (n : Nat) (x3 : Int32) (t9 : List Nat) (ν : gM) {la : Nat → Nat → Nat} {sa va cells slots : Nat}, cells + n * 15 ≤ CM → slots + n * 22632 ≤ SM → gloop (fun t => b_Ln_302 (scr ad) t.1 t.2.1 t.2.2 μ) n (x3, t9, ν) = some r → la 0 0 = o0 → lS ν → ∀ {H : Heap} {locs : List Loc} {ls : Array Slot}, hW D cy ad b μ (lws cy ad la ν) [(sa, sO va), (va, sV cy t9)] H → va_S (hA b) s.heap H locs → lv_has ls 4 [(0, .ref (la 0 0)), (1, .ref (ad 465)), (2, .ref sa), (3, .int x3)] → W p l e ({ frames := 8, cells := 1876, slots := 2285440, locals := 202 } : Room) s m args below meth c H locs cells slots Q (F0 m 302 ls []) := by
  intro n
  induction n with
  | zero =>
    intro x3 t9 ν la sa va cells slots hc hsl h
    exact (gloop_0 h).elim
  | succ n ih =>
    intro x3 t9 ν la sa va cells slots hc hsl h hoo hs H locs ls hM hS hl
    obtain ⟨o, h0, hcc, hq⟩ := gloop_s h
    have h1 : b_Ln_302 (scr ad) x3 t9 ν μ = some o := h0
    exact wb_Ln_302 (C0 := cells + 15) (S0 := slots + 22632) h1 F E hoo hs (by omega) (by omega) (by omega) (by omega) (fun t {la1 sa1 va1 H locs ls} ho hs hoo hM hS hl => ih t.1 t.2.1 t.2.2 (by omega) (by omega) (hcc t ho) hoo hs hM hS hl) (fun t {la1 sa1 va1 H locs ls} ho hs hoo hM hS hl => W.widen (by omega) (by omega) (kx t (hq _ ho).symm hs hoo hM hS hl)) hM hS hl
def b_Ln_430 (xs : Nat → Int32) (x3 : Int32) (t9 : List Nat) (ν μ : gM) : Option ((Int32 × List Nat × gM) ⊕ (List Nat × gM)) :=
  if ((gi ν 0 2) ≤ x3) then some (.inr (t9, ν)) else gchk ((([] : List Nat)).length + (t9).length ≤ 1024) (Option.bind (some (([] : List Nat) ++ t9)) (fun s236 => gchk (gIn ((3 : Int32) + x3) 100) (Option.bind (f_L_line x3 (xs (((3 : Int32) + x3).toNatClampNeg)) ν μ) (fun q238 => gchk ((s236).length + (q238.1).length ≤ 1024) (Option.bind (some (s236 ++ q238.1)) (fun s248 => some (.inl ((x3 + (1 : Int32)), s248, q238.2))))))))
set_option maxHeartbeats 20000000 in
set_option maxRecDepth 100000 in
theorem wb_Ln_430 {p : Program} {l : Launch} {e : Env} {s : State} {m : MethodId} {args : Array Value} {below : List Frame} {meth : Method} {c : Code} {D : va_G} {cy : Nat → ClassId} {ad : Nat → Nat} {b o0 : Nat} {sa va : Nat} {la : Nat → Nat → Nat} {μ ν : gM} {x3 : Int32} {t9 : List Nat} {o : (Int32 × List Nat × gM) ⊕ (List Nat × gM)} {Q : State → Prop} {cells slots C0 S0 : Nat} (h : b_Ln_430 (scr ad) x3 t9 ν μ = some o) (F : gF p s m meth c cX8_init RX8 4 none) (E : hE l D cy ad b s) (hoo : la 0 0 = o0) (hs : lS ν) (hc : cells + 112 ≤ C0) (hsl : slots + 156421 ≤ S0) (hcm : C0 ≤ 1876) (hsm : S0 ≤ 2285440) (kc : ∀ (t : Int32 × List Nat × gM) {la1 : Nat → Nat → Nat} {sa1 va1 : Nat} {H : Heap} {locs : List Loc} {ls : Array Slot}, o = .inl t → lS t.2.2 → la1 0 0 = o0 → hW D cy ad b μ (lws cy ad la1 t.2.2) [(sa1, sO va1), (va1, sV cy t.2.1)] H → va_S (hA b) s.heap H locs → lv_has ls 4 [(0, .ref (la1 0 0)), (1, .ref (ad 465)), (2, .ref sa1), (3, .int t.1)] → W p l e ({ frames := 8, cells := 1876, slots := 2285440, locals := 202 } : Room) s m args below meth c H locs C0 S0 Q (F0 m 430 ls [])) (kx : ∀ (t : List Nat × gM) {la1 : Nat → Nat → Nat} {sa1 va1 : Nat} {H : Heap} {locs : List Loc} {ls : Array Slot}, o = .inr t → lS t.2 → la1 0 0 = o0 → hW D cy ad b μ (lws cy ad la1 t.2) [(sa1, sO va1), (va1, sV cy t.1)] H → va_S (hA b) s.heap H locs → lv_has ls 4 [(0, .ref (la1 0 0)), (1, .ref (ad 465)), (2, .ref sa1)] → W p l e ({ frames := 8, cells := 1876, slots := 2285440, locals := 202 } : Room) s m args below meth c H locs C0 S0 Q (F0 m 474 ls [])) {H : Heap} {locs : List Loc} {ls : Array Slot} (hM : hW D cy ad b μ (lws cy ad la ν) [(sa, sO va), (va, sV cy t9)] H) (hS : va_S (hA b) s.heap H locs) (hl : lv_has ls 4 [(0, .ref (la 0 0)), (1, .ref (ad 465)), (2, .ref sa), (3, .int x3)]) : W p l e ({ frames := 8, cells := 1876, slots := 2285440, locals := 202 } : Room) s m args below meth c H locs cells slots Q (F0 m 430 ls []) := by
  obtain ⟨hx, hb, hml, hown, hlocks, hr⟩ := id F
  have hY := lY0_self (cy := cy) (ad := ad) (la := la) hs
  unfold b_Ln_430 at h
  refine lv_iload_n hx hb dX8_init_430 rfl (lv_at hl 3 rfl) ?_
  refine lv_aload_n hx hb dX8_init_431 rfl (lv_at hl 0 rfl) ?_
  refine h_get hx hb hown E hM (hp_m hY.n0) gC_X8 2 (by decide) (v := .int (gi ν 0 2)) rfl kw_1026 dX8_init_432 ?_
  refine lv_icmp_ge (tgt := 474) hx hb dX8_init_435 (by decide) (fun c229 => ?_) (fun c229 => ?_)
  · replace h := gif_t c229 h
    refine W.widen (k := C0) (n := S0) (by omega) (by omega) ?_
    exact kx _ (Option.some.inj h).symm hs hoo hM hS (lv_sub hl [0, 1, 2] rfl)
  · replace h := gif_f c229 h
    refine h_new hx hb hown E hM hS gC_J4 kw_549 kw_550 kw_63 (fs := [.null, .int (0 : Int32), .int (0 : Int32), .int (0 : Int32)]) (by decide +kernel) (show _ ≤ 1876 by omega) (show _ ≤ 2285440 by omega) dX8_init_438 (fun a230 H hM hS => ?_)
    replace hM : hW D cy ad b μ (lws cy ad la ν) [(sa, sO va), (va, sV cy t9), (a230, .inr (10, [.null, .int (0 : Int32), .int (0 : Int32), .int (0 : Int32)]))] H := hM
    refine lv_dup hx hb dX8_init_441 rfl ?_
    replace hM := hW.right (X := [(sa, sO va), (va, sV cy t9)]) (T := [(a230, .inr (10, [.null, .int (0 : Int32), .int (0 : Int32), .int (0 : Int32)]))]) hM
    refine h_callI (As := []) (rest := [.ref a230]) hx hb (hml.trans hl.1.symm) hown E hM hS xi_J4_init_da8c8 kw_551 c_binit rfl rfl (Nat.le_of_ble_eq_true rfl) ⟨(Nat.le_of_ble_eq_true rfl), (Nat.le_of_ble_eq_true rfl)⟩ ⟨(show _ ≤ 1876 by omega), (show _ ≤ 2285440 by omega)⟩ dX8_init_442 (fun rv H locs hZ hS => ?_)
    obtain ⟨vb231, rfl, hM⟩ := hZ
    replace hM := hW.left (X := [(sa, sO va), (va, sV cy t9)]) (T := (sB cy a230 vb231 16 (0 : Int32) ([] : List Nat))) hM
    replace hM : hW D cy ad b μ (lws cy ad la ν) ([(sa, sO va), (va, sV cy t9)] ++ sB cy a230 vb231 16 (0 : Int32) ([] : List Nat)) H := hM
    refine lv_aload_n hx hb dX8_init_445 rfl (lv_at hl 2 rfl) ?_
    obtain ⟨c232, h⟩ := gchk_e h
    obtain ⟨s236, hs236, h⟩ := gnm h
    replace hM := hW.right (X := [(sa, sO va), (va, sV cy t9)]) (T := (sB cy a230 vb231 16 (0 : Int32) ([] : List Nat))) hM
    refine h_callV (As := [.ref sa]) (rest := []) hx hb (hml.trans hl.1.symm) hown E hM hS xy_J4_append_15ec4 kw_581 (c_appS (Or.inr ⟨List.mem_append_right _ (List.mem_of_getElem? (i := 0) rfl), List.mem_append_right _ (List.mem_of_getElem? (i := 1) rfl)⟩) c232 (show ([] : List Nat).length ≤ 16 by decide) (show 16 ≤ 2056 by decide)) (ht_m List.mem_cons_self) gC_J4.1 rfl rfl (Nat.le_of_ble_eq_true rfl) ⟨(Nat.le_of_ble_eq_true rfl), (Nat.le_of_ble_eq_true rfl)⟩ ⟨(show _ ≤ 1876 by omega), (show _ ≤ 2285440 by omega)⟩ dX8_init_446 (fun rv H locs hZ hS => ?_)
    obtain ⟨vb233, w234, rfl, he235, hM⟩ := hZ
    rw [← hs236] at hM he235
    replace hM := hW.left (X := [(sa, sO va), (va, sV cy t9)]) hM
    replace hM : hW D cy ad b μ (lws cy ad la ν) ([(sa, sO va), (va, sV cy t9)] ++ sB cy a230 vb233 w234 (0 : Int32) s236) H := hM
    refine lv_aload_n hx hb dX8_init_449 rfl (lv_at hl 0 rfl) ?_
    refine lv_iload_n hx hb dX8_init_450 rfl (lv_at hl 3 rfl) ?_
    refine lv_aload_n hx hb dX8_init_451 rfl (lv_at hl 1 rfl) ?_
    refine lv_iconst (v := (3 : Int32)) hx hb dX8_init_452 (by decide) ?_
    refine lv_iload_n hx hb dX8_init_453 rfl (lv_at hl 3 rfl) ?_
    refine lv_iadd hx hb dX8_init_454 ?_
    obtain ⟨c237, h⟩ := gchk_e h
    replace hM := hW.low (T := ([(sa, sO va), (va, sV cy t9)] ++ sB cy a230 vb233 w234 (0 : Int32) s236)) hM
    refine h_callSN (As := [.ref (ad 465), .int ((3 : Int32) + x3)]) (rest := [.int x3, .ref (la 0 0), .ref a230]) hx hb (hml.trans hl.1.symm) hown E hM hS xs_L_cell (E.2.1.2.2.1 _ (List.mem_of_getElem? (i := 0) rfl)) (by have h9 := c_cell (l := l) (D := D) (cy := cy) (ad := ad) (b := b) (μ := μ) (P := ((lws cy ad la ν) ++ ([(sa, sO va), (va, sV cy t9)] ++ sB cy a230 vb233 w234 (0 : Int32) s236))) (k := (((3 : Int32) + x3).toNatClampNeg)) (by have := c237.2; omega); rwa [← gIn_e c237] at h9) rfl rfl (Nat.le_of_ble_eq_true rfl) ⟨(Nat.le_of_ble_eq_true rfl), (Nat.le_of_ble_eq_true rfl)⟩ ⟨(show _ ≤ 1876 by omega), (show _ ≤ 2285440 by omega)⟩ dX8_init_455 (fun rv H locs hZ hS => ?_)
    obtain ⟨rfl, hM⟩ := hZ
    replace hM := hW.up (T := ([(sa, sO va), (va, sV cy t9)] ++ sB cy a230 vb233 w234 (0 : Int32) s236)) hM
    replace hM : hW D cy ad b μ (lws cy ad la ν) ([(sa, sO va), (va, sV cy t9)] ++ sB cy a230 vb233 w234 (0 : Int32) s236) H := hM
    obtain ⟨q238, hq238, h⟩ := gbind_e h
    refine h_callV (As := [.int x3, .int (scr ad (((3 : Int32) + x3).toNatClampNeg))]) (rest := [.ref a230]) hx hb (hml.trans hl.1.symm) hown E hM hS xy_X8_line kw_815 (c_L_line (FX := ([(sa, sO va), (va, sV cy t9)] ++ sB cy a230 vb233 w234 (0 : Int32) s236)) hs hq238) (hp_m hY.n0) gC_X8.1 rfl rfl (Nat.le_of_ble_eq_true rfl) ⟨(Nat.le_of_ble_eq_true rfl), (Nat.le_of_ble_eq_true rfl)⟩ ⟨(show _ ≤ 1876 by omega), (show _ ≤ 2285440 by omega)⟩ dX8_init_458 (fun rv H locs hZ hS => ?_)
    obtain ⟨la239, sa240, va241, rfl, hs242, hM, ho243⟩ := hZ
    replace hoo := ho243.trans hoo
    rw [← ho243] at hl
    replace hs := hs242
    have hY := lY0_self (cy := cy) (ad := ad) (la := la239) hs
    replace hM : hW D cy ad b μ (lws cy ad la239 q238.2) ([(sa, sO va), (va, sV cy t9)] ++ sB cy a230 vb233 w234 (0 : Int32) s236 ++ [(sa240, sO va241), (va241, sV cy q238.1)]) H := hM
    replace hM : hW D cy ad b μ (lws cy ad la239 q238.2) ([(sa, sO va), (va, sV cy t9), (sa240, sO va241), (va241, sV cy q238.1)] ++ sB cy a230 vb233 w234 (0 : Int32) s236) H := hW.perm (List.Perm.append_left _ (by exact perm3 (A := [(sa, sO va), (va, sV cy t9)]) (B := (sB cy a230 vb233 w234 (0 : Int32) s236)) (C := [(sa240, sO va241), (va241, sV cy q238.1)]))) hM
    obtain ⟨c244, h⟩ := gchk_e h
    obtain ⟨s248, hs248, h⟩ := gnm h
    replace hM := hW.right (X := [(sa, sO va), (va, sV cy t9), (sa240, sO va241), (va241, sV cy q238.1)]) (T := (sB cy a230 vb233 w234 (0 : Int32) s236)) hM
    refine h_callV (As := [.ref sa240]) (rest := []) hx hb (hml.trans hl.1.symm) hown E hM hS xy_J4_append_15ec4 kw_581 (c_appS (Or.inr ⟨List.mem_append_right _ (List.mem_of_getElem? (i := 2) rfl), List.mem_append_right _ (List.mem_of_getElem? (i := 3) rfl)⟩) c244 he235.1 he235.2) (ht_m List.mem_cons_self) gC_J4.1 rfl rfl (Nat.le_of_ble_eq_true rfl) ⟨(Nat.le_of_ble_eq_true rfl), (Nat.le_of_ble_eq_true rfl)⟩ ⟨(show _ ≤ 1876 by omega), (show _ ≤ 2285440 by omega)⟩ dX8_init_461 (fun rv H locs hZ hS => ?_)
    obtain ⟨vb245, w246, rfl, he247, hM⟩ := hZ
    rw [← hs248] at hM he247
    replace hM := hW.left (X := [(sa, sO va), (va, sV cy t9), (sa240, sO va241), (va241, sV cy q238.1)]) hM
    replace hM : hW D cy ad b μ (lws cy ad la239 q238.2) ([(sa, sO va), (va, sV cy t9), (sa240, sO va241), (va241, sV cy q238.1)] ++ sB cy a230 vb245 w246 (0 : Int32) s248) H := hM
    replace hM := hW.right (X := [(sa, sO va), (va, sV cy t9), (sa240, sO va241), (va241, sV cy q238.1)]) (T := (sB cy a230 vb245 w246 (0 : Int32) s248)) hM
    refine h_callV (As := []) (rest := []) hx hb (hml.trans hl.1.symm) hown E hM hS xy_J4_toString_0e30d kw_725 (c_toS he247.1 he247.2) (ht_m List.mem_cons_self) gC_J4.1 rfl rfl (Nat.le_of_ble_eq_true rfl) ⟨(Nat.le_of_ble_eq_true rfl), (Nat.le_of_ble_eq_true rfl)⟩ ⟨(show _ ≤ 1876 by omega), (show _ ≤ 2285440 by omega)⟩ dX8_init_464 (fun rv H locs hZ hS => ?_)
    obtain ⟨a250, va251, rfl, hM⟩ := hZ
    replace hM := hW.left (X := [(sa, sO va), (va, sV cy t9), (sa240, sO va241), (va241, sV cy q238.1)]) hM
    replace hM := hW.cutM (A := [(sa, sO va), (va, sV cy t9), (sa240, sO va241), (va241, sV cy q238.1)]) hM
    replace hM : hW D cy ad b μ (lws cy ad la239 q238.2) [(sa, sO va), (va, sV cy t9), (sa240, sO va241), (va241, sV cy q238.1), (a250, sO va251), (va251, sV cy s248)] H := hM
    refine lv_astore_n (lv' := [(2, .ref a250), (0, .ref (la239 0 0)), (1, .ref (ad 465)), (3, .int x3)]) hx hb dX8_init_467 rfl hl (by decide) rfl (fun ls hl => ?_)
    refine lv_iinc (v := (x3 + (1 : Int32))) (lv' := [(3, .int (x3 + (1 : Int32))), (2, .ref a250), (0, .ref (la239 0 0)), (1, .ref (ad 465))]) hx hb dX8_init_468 hl (k := 3) rfl rfl (by decide) rfl (fun ls hl => ?_)
    refine lv_goto (tgt := 430) hx hb dX8_init_471 (by decide) ?_
    replace hM := hW.cut0 (B := [(sa, sO va), (va, sV cy t9)]) (C := [(sa240, sO va241), (va241, sV cy q238.1), (a250, sO va251), (va251, sV cy s248)]) hM
    replace hM : hW D cy ad b μ (lws cy ad la239 q238.2) [(sa240, sO va241), (va241, sV cy q238.1), (a250, sO va251), (va251, sV cy s248)] H := hM
    replace hM := hW.cut0 (B := [(sa240, sO va241), (va241, sV cy q238.1)]) (C := [(a250, sO va251), (va251, sV cy s248)]) hM
    replace hM : hW D cy ad b μ (lws cy ad la239 q238.2) [(a250, sO va251), (va251, sV cy s248)] H := hM
    refine W.widen (k := C0) (n := S0) (by omega) (by omega) ?_
    exact kc _ (Option.some.inj h).symm hs hoo hM hS (lv_sub hl [2, 3, 1, 0] rfl)
set_option maxHeartbeats 4000000 in
theorem wl_Ln_430 {p : Program} {l : Launch} {e : Env} {s : State} {m : MethodId} {args : Array Value} {below : List Frame} {meth : Method} {c : Code} {D : va_G} {cy : Nat → ClassId} {ad : Nat → Nat} {b o0 : Nat} {μ : gM} {r : List Nat × gM} {Q : State → Prop} {CM SM : Nat} (F : gF p s m meth c cX8_init RX8 4 none) (E : hE l D cy ad b s) (hcm : CM ≤ 1876) (hsm : SM ≤ 2285440) (kx : ∀ (t : List Nat × gM) {la1 : Nat → Nat → Nat} {sa1 va1 : Nat} {H : Heap} {locs : List Loc} {ls : Array Slot}, r = t → lS t.2 → la1 0 0 = o0 → hW D cy ad b μ (lws cy ad la1 t.2) [(sa1, sO va1), (va1, sV cy t.1)] H → va_S (hA b) s.heap H locs → lv_has ls 4 [(0, .ref (la1 0 0)), (1, .ref (ad 465)), (2, .ref sa1)] → W p l e ({ frames := 8, cells := 1876, slots := 2285440, locals := 202 } : Room) s m args below meth c H locs CM SM Q (F0 m 474 ls [])) : ∀ (n : Nat) (x3 : Int32) (t9 : List Nat) (ν : gM) {la : Nat → Nat → Nat} {sa va cells slots : Nat}, cells + n * 112 ≤ CM → slots + n * 156421 ≤ SM → gloop (fun t => b_Ln_430 (scr ad) t.1 t.2.1 t.2.2 μ) n (x3, t9, ν) = some r → la 0 0 = o0 → lS ν → ∀ {H : Heap} {locs : List Loc} {ls : Array Slot}, hW D cy ad b μ (lws cy ad la ν) [(sa, sO va), (va, sV cy t9)] H → va_S (hA b) s.heap H locs → lv_has ls 4 [(0, .ref (la 0 0)), (1, .ref (ad 465)), (2, .ref sa), (3, .int x3)] → W p l e ({ frames := 8, cells := 1876, slots := 2285440, locals := 202 } : Room) s m args below meth c H locs cells slots Q (F0 m 430 ls []) := by
  intro n
  induction n with
  | zero =>
    intro x3 t9 ν la sa va cells slots hc hsl h
    exact (gloop_0 h).elim
  | succ n ih =>
    intro x3 t9 ν la sa va cells slots hc hsl h hoo hs H locs ls hM hS hl
    obtain ⟨o, h0, hcc, hq⟩ := gloop_s h
    have h1 : b_Ln_430 (scr ad) x3 t9 ν μ = some o := h0
    exact wb_Ln_430 (C0 := cells + 112) (S0 := slots + 156421) h1 F E hoo hs (by omega) (by omega) (by omega) (by omega) (fun t {la1 sa1 va1 H locs ls} ho hs hoo hM hS hl => ih t.1 t.2.1 t.2.2 (by omega) (by omega) (hcc t ho) hoo hs hM hS hl) (fun t {la1 sa1 va1 H locs ls} ho hs hoo hM hS hl => W.widen (by omega) (by omega) (kx t (hq _ ho).symm hs hoo hM hS hl)) hM hS hl
def j_Ln_300 (xs : Nat → Int32) (t9 : List Nat) (ν μ : gM) : Option (gM × gM) :=
  Option.bind (gloop (fun t => b_Ln_302 xs t.1 t.2.1 t.2.2 μ) 9 ((0 : Int32), t9, ν)) (fun q225 => Option.bind (gloop (fun t => b_Ln_430 xs t.1 t.2.1 t.2.2 μ) 12 ((0 : Int32), q225.1, q225.2)) (fun q252 => gchk ((∀ x ∈ q252.1, x < 256) ∧ (q252.1).length ≤ 1000) (Option.bind (f_put q252.1 μ) (fun q257 => Option.bind (f_X7_load (nI (q252.1).length) q257) (fun q258 => some (si q252.2 0 11 (if q258.1 < 0 then (0 : Int32) else (1 : Int32)), q258.2))))))
set_option maxHeartbeats 20000000 in
set_option maxRecDepth 100000 in
theorem wj_Ln_300 {p : Program} {l : Launch} {e : Env} {s : State} {m : MethodId} {args : Array Value} {below : List Frame} {meth : Method} {c : Code} {D : va_G} {cy : Nat → ClassId} {ad : Nat → Nat} {b o0 : Nat} {sa va : Nat} {la : Nat → Nat → Nat} {μ ν : gM} {t9 : List Nat} {RES : gM × gM} {Z : Option Value → Heap → Prop} {cells slots : Nat} (h : j_Ln_300 (scr ad) t9 ν μ = some RES) (F : gF p s m meth c cX8_init RX8 4 none) (E : hE l D cy ad b s) (hoo : la 0 0 = o0) (hs : lS ν) (kz : ∀ (f : Nat → Nat) (la : Nat → Nat → Nat) (H : Heap), (∀ k, 60 ≤ k → f k = ad k) → la 0 0 = o0 → lS RES.1 → hW D cy f b RES.2 (lws cy f la RES.1) [] H → Z none H) (hc : cells + 1649 ≤ 1876) (hsl : slots + 2238040 ≤ 2285440) {H : Heap} {locs : List Loc} {ls : Array Slot} (hM : hW D cy ad b μ (lws cy ad la ν) [(sa, sO va), (va, sV cy t9)] H) (hS : va_S (hA b) s.heap H locs) (hl : lv_has ls 4 [(0, .ref (la 0 0)), (1, .ref (ad 465)), (2, .ref sa)]) : W p l e ({ frames := 8, cells := 1876, slots := 2285440, locals := 202 } : Room) s m args below meth c H locs cells slots (MQ below (hQ b Z) args s 1876 2285440 (hA b)) (F0 m 300 ls []) := by
  obtain ⟨hx, hb, hml, hown, hlocks, hr⟩ := id F
  have hY := lY0_self (cy := cy) (ad := ad) (la := la) hs
  unfold j_Ln_300 at h
  refine lv_iconst (v := (0 : Int32)) hx hb dX8_init_300 (by decide) ?_
  refine lv_istore_n (lv' := [(3, .int (0 : Int32)), (0, .ref (la 0 0)), (1, .ref (ad 465)), (2, .ref sa)]) hx hb dX8_init_301 rfl hl (by decide) rfl (fun ls hl => ?_)
  obtain ⟨q225, h1, h⟩ := gbind_e h
  refine wl_Ln_302 (CM := cells + 135) (SM := slots + 203688) F E (by omega) (by omega) (r := q225) (fun t {la228 sa226 va227 H locs ls} et hs hoo hM hS hl => ?_) 9 (0 : Int32) t9 ν (by omega) (by omega) h1 hoo hs hM hS (lv_sub hl [1, 2, 3, 0] rfl)
  subst et
  have hY := lY0_self (cy := cy) (ad := ad) (la := la228) hs
  refine lv_iconst (v := (0 : Int32)) hx hb dX8_init_428 (by decide) ?_
  refine lv_istore_n (lv' := [(3, .int (0 : Int32)), (0, .ref (la228 0 0)), (1, .ref (ad 465)), (2, .ref sa226)]) hx hb dX8_init_429 rfl hl (by decide) rfl (fun ls hl => ?_)
  obtain ⟨q252, h1, h⟩ := gbind_e h
  refine wl_Ln_430 (CM := cells + 1479) (SM := slots + 2080740) F E (by omega) (by omega) (r := q252) (fun t {la255 sa253 va254 H locs ls} et hs hoo hM hS hl => ?_) 12 (0 : Int32) q225.1 q225.2 (by omega) (by omega) h1 hoo hs hM hS (lv_sub hl [1, 2, 3, 0] rfl)
  subst et
  have hY := lY0_self (cy := cy) (ad := ad) (la := la255) hs
  refine lv_aload_n hx hb dX8_init_474 rfl (lv_at hl 0 rfl) ?_
  refine lv_aload_n hx hb dX8_init_475 rfl (lv_at hl 2 rfl) ?_
  obtain ⟨c256, h⟩ := gchk_e h
  obtain ⟨q257, hq257, h⟩ := gbind_e h
  replace hM := hW.low (T := [(sa253, sO va254), (va254, sV cy q252.1)]) hM
  refine h_callV (As := [.ref sa253]) (rest := []) hx hb (hml.trans hl.1.symm) hown E hM hS xy_X8_put kw_882 (c_put (fo := [.int (gi q252.2 0 1), .int (gi q252.2 0 2), .ref (la255 1 0), .ref (la255 2 0), .ref (la255 3 0), .ref (la255 4 0), .ref (la255 5 0), .ref (la255 6 0), .ref (la255 8 0), lHv la255 q252.2, .int (gi q252.2 0 11)]) (List.mem_append_left _ hY.n0) (List.mem_append_right _ (List.mem_of_getElem? (i := 0) rfl)) (List.mem_append_right _ (List.mem_of_getElem? (i := 1) rfl)) c256.1 c256.2 hq257) (hp_m (List.mem_append_left _ hY.n0)) gC_X8.1 rfl rfl (Nat.le_of_ble_eq_true rfl) ⟨(Nat.le_of_ble_eq_true rfl), (Nat.le_of_ble_eq_true rfl)⟩ ⟨(show _ ≤ 1876 by omega), (show _ ≤ 2285440 by omega)⟩ dX8_init_476 (fun rv H locs hZ hS => ?_)
  obtain ⟨rfl, hM⟩ := hZ
  replace hM := hW.up (T := [(sa253, sO va254), (va254, sV cy q252.1)]) hM
  replace hM : hW D cy ad b q257 (lws cy ad la255 q252.2) [(sa253, sO va254), (va254, sV cy q252.1)] H := hM
  refine lv_aload_n hx hb dX8_init_479 rfl (lv_at hl 0 rfl) ?_
  refine lv_aload_n hx hb dX8_init_480 rfl (lv_at hl 0 rfl) ?_
  refine h_get hx hb hown E hM (hp_m hY.n0) gC_X8 0 (by decide) (v := .ref (ad 0)) rfl kw_1023 dX8_init_481 ?_
  refine lv_aload_n hx hb dX8_init_484 rfl (lv_at hl 2 rfl) ?_
  replace hM := hW.low (T := [(sa253, sO va254), (va254, sV cy q252.1)]) hM
  refine h_callK (As := []) (rest := [.ref (ad 0), .ref (la255 0 0)]) hx hb (hml.trans hl.1.symm) hown E hM hS (Or.inr ⟨List.mem_append_right _ (List.mem_of_getElem? (i := 0) rfl), List.mem_append_right _ (List.mem_of_getElem? (i := 1) rfl)⟩) rfl xy_J0_length_8abf5 kw_886 (c_slen (Or.inr ⟨List.mem_append_right _ (List.mem_of_getElem? (i := 0) rfl), List.mem_append_right _ (List.mem_of_getElem? (i := 1) rfl)⟩)) rfl rfl (Nat.le_of_ble_eq_true rfl) ⟨(Nat.le_of_ble_eq_true rfl), (Nat.le_of_ble_eq_true rfl)⟩ ⟨(show _ ≤ 1876 by omega), (show _ ≤ 2285440 by omega)⟩ dX8_init_485 (fun rv H locs hZ hS => ?_)
  obtain ⟨rfl, hM⟩ := hZ
  replace hM := hW.up (T := [(sa253, sO va254), (va254, sV cy q252.1)]) hM
  replace hM : hW D cy ad b q257 (lws cy ad la255 q252.2) [(sa253, sO va254), (va254, sV cy q252.1)] H := hM
  obtain ⟨q258, hq258, h⟩ := gbind_e h
  obtain rfl := Option.some.inj h
  replace hM := hW.keep (X := []) (T := [(sa253, sO va254), (va254, sV cy q252.1)]) hM
  refine h_callL (As := [.int (nI (q252.1).length)]) (rest := [.ref (la255 0 0)]) hx hb (hml.trans hl.1.symm) hown E hM hS hy_X7_load kw_910 (c_X7_load hq258) hk_0 dd_0 rfl rfl rfl (Nat.le_of_ble_eq_true rfl) ⟨(Nat.le_of_ble_eq_true rfl), (Nat.le_of_ble_eq_true rfl)⟩ ⟨(show _ ≤ 1876 by omega), (show _ ≤ 2285440 by omega)⟩ dX8_init_488 (fun ad2 H locs had hM hS => ?_)
  rw [show lws cy ad la255 q252.2 = lws cy ad2 la255 q252.2 from lws_ad (had 0 (Or.inl (by decide))) (had 461 (Or.inr (by decide)))] at hM
  exact w_Ln_491 (o0 := 0) F (hE_cg E (fun k hk => had k (Or.inr hk))) hs (fun la2 H h1 h2 h3 => kz ad2 la2 H (fun k hk => had k (Or.inr hk)) (h1.trans hoo) h2 h3) (show _ ≤ 1876 by omega) (show _ ≤ 2285440 by omega) hM hS hl.1

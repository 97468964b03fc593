/-! the law's own body -/
def f_steps (xs : Nat → Int32) : Nat → Nat → gM → gM → Option (gM × gM)
  | 0, _, ν, μ => some (ν, μ)
  | n + 1, i, ν, μ => Option.bind (f_L_does (xs (14 + i)) ν μ) (fun q => gchk (q.1 = true) (Option.bind (f_L_isSame q.2.1 q.2.2) (fun r => gchk (r.1 = true) (f_steps xs n (i + 1) q.2.1 r.2))))
def f_law (xs : Nat → Int32) : Option Unit :=
  Option.bind (f_L_init xs) (fun q => gchk (¬ gi q.1 0 11 = 0) (Option.bind (f_L_isSame q.1 q.2) (fun r => gchk (r.1 = true) (Option.bind (f_steps xs 14 0 q.1 r.2) (fun t => Option.bind (f_X7_adjust (0 : Int32) t.2) (fun u => gchk (u.1 = (-2 : Int32)) (some ())))))))
theorem i_callJ {p : Program} {l : Launch} {e : Env} {R : Room} {s : State} {m : MethodId} {args : Array Value} {below : List Frame} {meth : Method} {c : Code} {H : Heap} {locs : List Loc} {cells slots : Nat} {Q : State → Prop} {cc : ByteArray} {pc : Nat} {ls : Array Slot} {rest : List Value} {D : va_G} {cy : Nat → ClassId} {ad : Nat → Nat} {b a : Nat} {own : String} {ws : va_W} (hx : p.tables.exec = Jvm.exec) (hb : c.code = cc) (hml : c.maxLocals = ls.size) (hown : s.vm.findClass own = some m.cls) (E : hE l D cy ad b s) (hP : va_P D vwCl ws H) (hD : va_D (hA b) ws) (hS : va_S (hA b) s.heap H locs) {y : MethodName} {bytes : ByteArray} {maxL n idx fr lo mc ms : Nat} {Z : Option Value → Heap → Prop} {As : List Value} {st : List Value} (hy : gYI y bytes maxL n) (hl : gw (.methodLink own idx y))
    (hMt : Met l y [.code y bytes maxL none] ({ frames := fr, cells := mc, slots := ms, locals := lo }) (va_Pc (.ref a :: As) (gI l D cy ad b ws)) (hQ b Z) mc ms (hA b))
    (hn : As.length = n) (hst : st = As.reverse ++ .ref a :: rest) (hroom : (rest.map fun v => v.category).sum ≤ 8) (hR : fr + 1 ≤ R.frames ∧ 8 + (maxL + 11) + lo ≤ R.locals) (hcs : cells + mc ≤ R.cells ∧ slots + ms ≤ R.slots) (hdg : decode cc pc = .ok (.invokespecial idx, 3))
    (kk : ∀ (rv : Option Value) (H1 : Heap) (locs1 : List Loc), Z rv H1 → va_S (hA b) s.heap H1 locs1 → W p l e R s m args below meth c H1 locs1 (cells + mc) (slots + ms) Q (F0 m (pc + 3) ls (rv.toList ++ rest))) : W p l e R s m args below meth c H locs cells slots Q (F0 m pc ls st) := by
  subst hst
  intro T0 hT X
  obtain ⟨y1, y2, y3, y5, y6, y7⟩ := hy
  have cb : CallB R s args own idx y bytes maxL none [.code y bytes maxL none] ({ frames := fr, cells := mc, slots := ms, locals := lo }) mc ms n :=
    ⟨rfl, rfl, hR.1, hR.2, (fun w hw a' U hW => by rw [List.mem_singleton.mp hw]; exact word_at hW (good_of_word y1.2) (E.kw y1 (a := #[]))), List.mem_cons_self, E.kw y1, E.kw y2, y5, (fun sig h => by rw [h] at y6; exact (Option.some.inj y6).symm), E.kw hl⟩
  obtain ⟨v, st₀, t, T', L9, h0, X', hL, e1, e2, ⟨⟨rv, hv, hZ⟩, hz, hq⟩, st⟩ := va_runI (As := As) (rest := rest) (b := a) (own := own) (Ts := []) (nL := ls.size) ⟨hx, hb, hml, hown, fun _ h => nomatch h⟩ hMt ⟨cb, y7, E.kw y3⟩ ⟨gI_blind, gI_at E hP hD hS⟩ (g := F0 m pc ls (As.reverse ++ .ref a :: rest)) rfl hn rfl rfl (lv_room hroom) hdg hcs T0 hT X
  cases hv
  obtain ⟨t2, a1, b1⟩ := kk v t.heap (locs ++ L9) hZ (h_S hS h0 hz hq hL) T' e1 X'
  exact ⟨t2, st t2 a1, b1⟩
theorem xy_X8_isSame : gYV yX8_isSame cX8_isSame 1 (some .boolean) 0 := ⟨kw_1065, kw_50, kw_1063, kw_1064, ⟨by decide +kernel, by decide +kernel⟩, by decide +kernel⟩
theorem xy_X8_does : gYV yX8_does cX8_does 9 (some .boolean) 1 := ⟨kw_1498, kw_50, kw_1496, kw_1497, ⟨by decide +kernel, by decide +kernel⟩, by decide +kernel⟩
theorem xi_X8_init : gYI yX8_init cX8_init 4 1 := ⟨kw_159, kw_50, kw_158, ⟨by decide +kernel, by decide +kernel⟩, by decide +kernel, rfl⟩
theorem dL_law_0 : decode cL_law 0 = .ok (.new 10, 3) := by decide +kernel
theorem dL_law_3 : decode cL_law 3 = .ok (.dup, 1) := by decide +kernel
theorem dL_law_4 : decode cL_law 4 = .ok (.aload_n 0, 1) := by decide +kernel
theorem dL_law_5 : decode cL_law 5 = .ok (.invokespecial 12, 3) := by decide +kernel
theorem dL_law_8 : decode cL_law 8 = .ok (.astore_n 1, 1) := by decide +kernel
theorem dL_law_9 : decode cL_law 9 = .ok (.aload_n 1, 1) := by decide +kernel
theorem dL_law_10 : decode cL_law 10 = .ok (.getfield 15, 3) := by decide +kernel
theorem dL_law_13 : decode cL_law 13 = .ok (.ifCond .eq 10, 3) := by decide +kernel
theorem dL_law_16 : decode cL_law 16 = .ok (.aload_n 1, 1) := by decide +kernel
theorem dL_law_17 : decode cL_law 17 = .ok (.invokevirtual 19, 3) := by decide +kernel
theorem dL_law_20 : decode cL_law 20 = .ok (.ifCond .ne 5, 3) := by decide +kernel
theorem dL_law_23 : decode cL_law 23 = .ok (.iconst 0, 1) := by decide +kernel
theorem dL_law_24 : decode cL_law 24 = .ok (.ireturn, 1) := by decide +kernel
theorem dL_law_25 : decode cL_law 25 = .ok (.iconst 0, 1) := by decide +kernel
theorem dL_law_26 : decode cL_law 26 = .ok (.istore_n 2, 1) := by decide +kernel
theorem dL_law_27 : decode cL_law 27 = .ok (.iload_n 2, 1) := by decide +kernel
theorem dL_law_28 : decode cL_law 28 = .ok (.bipush 14, 2) := by decide +kernel
theorem dL_law_30 : decode cL_law 30 = .ok (.if_icmp .ge 33, 3) := by decide +kernel
theorem dL_law_33 : decode cL_law 33 = .ok (.aload_n 1, 1) := by decide +kernel
theorem dL_law_34 : decode cL_law 34 = .ok (.aload_n 0, 1) := by decide +kernel
theorem dL_law_35 : decode cL_law 35 = .ok (.bipush 14, 2) := by decide +kernel
theorem dL_law_37 : decode cL_law 37 = .ok (.iload_n 2, 1) := by decide +kernel
theorem dL_law_38 : decode cL_law 38 = .ok (.iadd, 1) := by decide +kernel
theorem dL_law_39 : decode cL_law 39 = .ok (.invokestatic 23, 3) := by decide +kernel
theorem dL_law_42 : decode cL_law 42 = .ok (.invokevirtual 29, 3) := by decide +kernel
theorem dL_law_45 : decode cL_law 45 = .ok (.ifCond .eq 10, 3) := by decide +kernel
theorem dL_law_48 : decode cL_law 48 = .ok (.aload_n 1, 1) := by decide +kernel
theorem dL_law_49 : decode cL_law 49 = .ok (.invokevirtual 19, 3) := by decide +kernel
theorem dL_law_52 : decode cL_law 52 = .ok (.ifCond .ne 5, 3) := by decide +kernel
theorem dL_law_55 : decode cL_law 55 = .ok (.iconst 0, 1) := by decide +kernel
theorem dL_law_56 : decode cL_law 56 = .ok (.ireturn, 1) := by decide +kernel
theorem dL_law_57 : decode cL_law 57 = .ok (.iinc 2 1, 3) := by decide +kernel
theorem dL_law_60 : decode cL_law 60 = .ok (.goto (-33), 3) := by decide +kernel
theorem dL_law_63 : decode cL_law 63 = .ok (.aload_n 1, 1) := by decide +kernel
theorem dL_law_64 : decode cL_law 64 = .ok (.getfield 33, 3) := by decide +kernel
theorem dL_law_67 : decode cL_law 67 = .ok (.iconst 0, 1) := by decide +kernel
theorem dL_law_68 : decode cL_law 68 = .ok (.invokevirtual 37, 3) := by decide +kernel
theorem dL_law_71 : decode cL_law 71 = .ok (.bipush (-2), 2) := by decide +kernel
theorem dL_law_73 : decode cL_law 73 = .ok (.if_icmp .ne 7, 3) := by decide +kernel
theorem dL_law_76 : decode cL_law 76 = .ok (.iconst 1, 1) := by decide +kernel
theorem dL_law_77 : decode cL_law 77 = .ok (.goto 4, 3) := by decide +kernel
theorem dL_law_80 : decode cL_law 80 = .ok (.iconst 0, 1) := by decide +kernel
theorem dL_law_81 : decode cL_law 81 = .ok (.ireturn, 1) := by decide +kernel
set_option maxHeartbeats 4000000 in
set_option maxRecDepth 100000 in
theorem w_law_27 {p : Program} {l : Launch} {e : Env} {s : State} {m : MethodId} {args : Array Value} {below : List Frame} {meth : Method} {c : Code} {D : va_G} {cy : Nat → ClassId} {ad : Nat → Nat} {b o0 : Nat} {Q : State → Prop} {RES : gM × gM} {CM SM : Nat} (hx : p.tables.exec = Jvm.exec) (hb : c.code = cL_law) (hml : c.maxLocals = 3) (hown : s.vm.findClass RL = some m.cls) (E : hE l D cy ad b s) (hcm : CM ≤ 465866) (hsm : SM ≤ 7704102) (kx : ∀ {la1 : Nat → Nat → Nat} {cells slots : Nat} {H : Heap} {locs : List Loc} {ls : Array Slot}, cells ≤ CM → slots ≤ SM → hV D cy ad la1 b RES.2 RES.1 [] H → va_S (hA b) s.heap H locs → lv_has ls 3 [(1, .ref (la1 0 0)), (0, .ref (ad 465))] → W p l e room_1 s m args below meth c H locs cells slots Q (F0 m 63 ls [])) : ∀ (n i : Nat) (ν μ : gM) {la : Nat → Nat → Nat} {cells slots : Nat}, i + n = 14 → cells + n * 24987 ≤ CM → slots + n * 100448 ≤ SM → f_steps (scr ad) n i ν μ = some RES → ∀ {H : Heap} {locs : List Loc} {ls : Array Slot}, hV D cy ad la b μ ν [] H → va_S (hA b) s.heap H locs → lv_has ls 3 [(2, .int (nI i)), (1, .ref (la 0 0)), (0, .ref (ad 465))] → W p l e room_1 s m args below meth c H locs cells slots Q (F0 m 27 ls []) := by
  intro n
  induction n with
  | zero =>
    intro i ν μ la cells slots hi hc hsl h H locs ls hM hS hl
    refine lv_iload_n hx hb dL_law_27 rfl (lv_at hl 0 rfl) ?_
    refine lv_bipush (v := (14 : Int32)) hx hb dL_law_28 (by decide) ?_
    refine lv_icmp_ge (tgt := 63) hx hb dL_law_30 (by decide) (fun c1 => ?_) (fun c1 => ?_)
    · obtain rfl := Option.some.inj h
      exact kx (by omega) (by omega) hM hS (lv_sub hl [1, 2] rfl)
    · exact absurd (show (14 : Int32) ≤ nI i from nI_le (a := 14) (b := i) (by omega) (by omega)) c1
  | succ n ih =>
    intro i ν μ la cells slots hi hc hsl h H locs ls hM hS hl
    refine lv_iload_n hx hb dL_law_27 rfl (lv_at hl 0 rfl) ?_
    refine lv_bipush (v := (14 : Int32)) hx hb dL_law_28 (by decide) ?_
    refine lv_icmp_ge (tgt := 63) hx hb dL_law_30 (by decide) (fun c1 => ?_) (fun c1 => ?_)
    · exact absurd c1 (nI_ge (a := i) (b := 14) (by omega) (by decide))
    · obtain ⟨q, hq, h⟩ := gbind_e h
      obtain ⟨eq1, h⟩ := gchk_e h
      obtain ⟨r, hr, h⟩ := gbind_e h
      obtain ⟨er, h⟩ := gchk_e h
      obtain ⟨hs, hf, hM⟩ := hM
      have hY := lY_self (cy := cy) (ad := ad) (la := la) hs hf
      refine lv_aload_n hx hb dL_law_33 rfl (lv_at hl 1 rfl) ?_
      refine lv_aload_n hx hb dL_law_34 rfl (lv_at hl 2 rfl) ?_
      refine lv_bipush (v := (14 : Int32)) hx hb dL_law_35 (by decide) ?_
      refine lv_iload_n hx hb dL_law_37 rfl (lv_at hl 0 rfl) ?_
      refine lv_iadd hx hb dL_law_38 ?_
      rw [show (14 : Int32) + nI i = nI (14 + i) from nI_add 14 i]
      refine h_callS (As := [.ref (ad 465), .int (nI (14 + i))]) (rest := [.ref (la 0 0)]) hx hb (hml.trans hl.1.symm) hown E hM hS xs_L_cell kw_1550 (c_cell (k := 14 + i) (by omega)) rfl rfl (Nat.le_of_ble_eq_true rfl) ⟨(Nat.le_of_ble_eq_true rfl), (Nat.le_of_ble_eq_true rfl)⟩ ⟨(show _ ≤ 465866 by omega), (show _ ≤ 7704102 by omega)⟩ dL_law_39 (fun rv H locs hZ hS => ?_)
      obtain ⟨rfl, hM⟩ := hZ
      refine h_callV (As := [.int (scr ad (14 + i))]) (rest := []) hx hb (hml.trans hl.1.symm) hown E hM hS xy_X8_does kw_1495 (c_L_does hs hf hq) (hp_m (hY.c1 0 rfl)) gC_X8.1 rfl rfl (Nat.le_of_ble_eq_true rfl) ⟨(Nat.le_of_ble_eq_true rfl), (Nat.le_of_ble_eq_true rfl)⟩ ⟨(show _ ≤ 465866 by omega), (show _ ≤ 7704102 by omega)⟩ dL_law_42 (fun rv H locs hZ hS => ?_)
      obtain ⟨la1, rfl, hM, ho⟩ := hZ
      rw [eq1]
      refine lv_if_eq (tgt := 55) hx hb dL_law_45 (by decide) (fun c2 => absurd c2 (by decide)) (fun _ => ?_)
      rw [← ho] at hl
      obtain ⟨hs, hf, hM⟩ := hM
      have hY := lY_self (cy := cy) (ad := ad) (la := la1) hs hf
      refine lv_aload_n hx hb dL_law_48 rfl (lv_at hl 1 rfl) ?_
      refine h_callV (As := []) (rest := []) hx hb (hml.trans hl.1.symm) hown E hM hS xy_X8_isSame kw_1062 (c_L_isSame hY hr) (hp_m (hY.c1 0 rfl)) gC_X8.1 rfl rfl (Nat.le_of_ble_eq_true rfl) ⟨(Nat.le_of_ble_eq_true rfl), (Nat.le_of_ble_eq_true rfl)⟩ ⟨(show _ ≤ 465866 by omega), (show _ ≤ 7704102 by omega)⟩ dL_law_49 (fun rv H locs hZ hS => ?_)
      obtain ⟨rfl, hM⟩ := hZ
      rw [er]
      refine lv_if_ne (tgt := 57) hx hb dL_law_52 (by decide) (fun _ => ?_) (fun c2 => absurd c2 (by decide))
      refine lv_iinc (v := nI (i + 1)) (lv' := [(2, .int (nI (i + 1))), (1, .ref (la1 0 0)), (0, .ref (ad 465))]) hx hb dL_law_57 hl (k := 0) rfl (nI_1 i) (by decide) rfl (fun ls hl => ?_)
      refine lv_goto (tgt := 27) hx hb dL_law_60 (by decide) ?_
      exact ih (i + 1) q.2.1 r.2 (by omega) (by omega) (by omega) h ⟨hs, hf, hM⟩ hS hl
set_option maxHeartbeats 4000000 in
set_option maxRecDepth 100000 in
theorem w_law {p : Program} {l : Launch} {e : Env} {s : State} {m : MethodId} {args : Array Value} {below : List Frame} {meth : Method} {c : Code} {D : va_G} {cy : Nat → ClassId} {ad : Nat → Nat} {b : Nat} {Q : State → Prop} (hx : p.tables.exec = Jvm.exec) (hb : c.code = cL_law) (hml : c.maxLocals = 3) (hown : s.vm.findClass RL = some m.cls) (E : hE l D cy ad b s) (h : f_law (scr ad) = some ()) (hF : ∀ q, f_L_init (scr ad) = some q → lF q.1) (hS : va_S (hA b) s.heap s.heap []) {ls : Array Slot} (hl : lv_has ls 3 [(0, .ref (ad 465))]) (kx : ∀ {H : Heap} {locs : List Loc} {ls : Array Slot} {cells slots : Nat}, cells ≤ 465866 → slots ≤ 7704102 → va_S (hA b) s.heap H locs → W p l e room_1 s m args below meth c H locs cells slots Q (F0 m 81 ls [.int 1])) : W p l e room_1 s m args below meth c s.heap [] 0 0 Q (F0 m 0 ls []) := by
  unfold f_law at h
  obtain ⟨q, hq, h⟩ := gbind_e h
  obtain ⟨hr0, h⟩ := gchk_e h
  obtain ⟨r, hr, h⟩ := gbind_e h
  obtain ⟨er, h⟩ := gchk_e h
  obtain ⟨t, ht, h⟩ := gbind_e h
  obtain ⟨u, hu, h⟩ := gbind_e h
  obtain ⟨eu, h⟩ := gchk_e h
  have hf := hF q hq
  have hP : va_P D vwCl ([] : va_W) s.heap := fun k q h => by simp at h
  have hD : va_D (hA b) ([] : va_W) := ⟨fun i j p q h => by simp at h, fun k q h => by simp at h⟩
  refine i_new hx hb hown E hP hD hS gC_X8 kw_155 kw_156 kw_50 (fs := [.null, .int (0 : Int32), .int (0 : Int32), .null, .null, .null, .null, .null, .null, .null, .null, .int (0 : Int32)]) (fun j hj => by match j, hj with | 0, _ => rfl | 1, _ => rfl | 2, _ => rfl | 3, _ => rfl | 4, _ => rfl | 5, _ => rfl | 6, _ => rfl | 7, _ => rfl | 8, _ => rfl | 9, _ => rfl | 10, _ => rfl | 11, _ => rfl | k + 12, h9 => exact absurd h9 (by omega)) (Nat.le_of_ble_eq_true rfl) (Nat.le_of_ble_eq_true rfl) dL_law_0 (fun a H hP hD hS => ?_)
  refine lv_dup hx hb dL_law_3 rfl ?_
  refine lv_aload_n hx hb dL_law_4 rfl (lv_at hl 0 rfl) ?_
  refine i_callJ (As := [.ref (ad 465)]) (rest := [.ref a]) hx hb (hml.trans hl.1.symm) hown E hP hD hS xi_X8_init kw_157 (c_Linit hq) rfl rfl (Nat.le_of_ble_eq_true rfl) ⟨(Nat.le_of_ble_eq_true rfl), (Nat.le_of_ble_eq_true rfl)⟩ ⟨(Nat.le_of_ble_eq_true rfl), (Nat.le_of_ble_eq_true rfl)⟩ dL_law_5 (fun rv H locs hZ hS => ?_)
  obtain ⟨rfl, f, la, had, rfl, hs, hM⟩ := hZ
  replace E := hE_cg E had
  have hsc := scr_cg had
  have h465 := had 465 (by decide)
  rw [← h465] at hl
  rw [← hsc] at ht
  refine lv_astore_n (lv' := [(1, .ref (la 0 0)), (0, .ref (f 465))]) hx hb dL_law_8 rfl hl (by decide) rfl (fun ls hl => ?_)
  have hY := lY_self (cy := cy) (ad := f) (la := la) hs hf
  refine lv_aload_n hx hb dL_law_9 rfl (lv_at hl 0 rfl) ?_
  refine h_getN hx hb hown E hM (hp_m (hY.c1 0 rfl)) gC_X8 11 (by decide) (v := .int (gi q.1 0 11)) rfl (List.mem_of_getElem? (i := 2) rfl) dL_law_10 ?_
  refine lv_if_eq (tgt := 23) hx hb dL_law_13 (by decide) (fun c2 => absurd c2 hr0) (fun _ => ?_)
  refine lv_aload_n hx hb dL_law_16 rfl (lv_at hl 0 rfl) ?_
  refine h_callV (As := []) (rest := []) hx hb (hml.trans hl.1.symm) hown E hM hS xy_X8_isSame kw_1062 (c_L_isSame hY hr) (hp_m (hY.c1 0 rfl)) gC_X8.1 rfl rfl (Nat.le_of_ble_eq_true rfl) ⟨(Nat.le_of_ble_eq_true rfl), (Nat.le_of_ble_eq_true rfl)⟩ ⟨(show _ ≤ 465866 by omega), (show _ ≤ 7704102 by omega)⟩ dL_law_17 (fun rv H locs hZ hS => ?_)
  obtain ⟨rfl, hM⟩ := hZ
  rw [er]
  refine lv_if_ne (tgt := 25) hx hb dL_law_20 (by decide) (fun _ => ?_) (fun c2 => absurd c2 (by decide))
  refine lv_iconst (v := (0 : Int32)) hx hb dL_law_25 (by decide) ?_
  refine lv_istore_n (lv' := [(2, .int (nI 0)), (1, .ref (la 0 0)), (0, .ref (f 465))]) hx hb dL_law_26 rfl hl (by decide) rfl (fun ls hl => ?_)
  refine w_law_27 (o0 := 0) (CM := 380000) (SM := 4000000) hx hb hml hown E (by decide) (by decide) (fun {la1 cells slots H locs ls} hc hsl hM hS hl => ?_) 14 0 q.1 r.2 rfl (by decide) (by decide) ht ⟨hs, hf, hM⟩ hS hl
  obtain ⟨hs, hf, hM⟩ := hM
  have hY := lY_self (cy := cy) (ad := f) (la := la1) hs hf
  refine lv_aload_n hx hb dL_law_63 rfl (lv_at hl 0 rfl) ?_
  refine h_getN hx hb hown E hM (hp_m (hY.c1 0 rfl)) gC_X8 0 (by decide) (v := .ref (f 0)) rfl (List.mem_of_getElem? (i := 1) rfl) dL_law_64 ?_
  refine lv_iconst (v := (0 : Int32)) hx hb dL_law_67 (by decide) ?_
  refine h_callC (As := [.int (0 : Int32)]) (rest := []) hx hb (hml.trans hl.1.symm) hown E hM hS hy_X7_adjust kw_82 (c_X7_adjust hu) hk_0 dd_0 rfl rfl rfl (Nat.le_of_ble_eq_true rfl) ⟨(Nat.le_of_ble_eq_true rfl), (Nat.le_of_ble_eq_true rfl)⟩ ⟨(show _ ≤ 465866 by omega), (show _ ≤ 7704102 by omega)⟩ dL_law_68 (fun H locs hM hS => ?_)
  rw [eu]
  refine lv_bipush (v := (-2 : Int32)) hx hb dL_law_71 (by decide) ?_
  refine lv_icmp_ne (tgt := 80) hx hb dL_law_73 (by decide) (fun c2 => absurd rfl c2) (fun _ => ?_)
  refine lv_iconst (v := (1 : Int32)) hx hb dL_law_76 (by decide) ?_
  refine lv_goto (tgt := 81) hx hb dL_law_77 (by decide) ?_
  exact kx (by omega) (by omega) hS

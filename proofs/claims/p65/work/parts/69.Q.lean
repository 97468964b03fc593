/-! lists grow -/
section GROW
variable {p : Program} {l : Launch} {e : Env} {R : Room} {s : State} {m : MethodId} {args : Array Value} {below : List Frame} {meth : Method} {c : Code} {H : Heap} {locs : List Loc} {cells slots : Nat} {Q : State → Prop}
variable {cc : ByteArray} {pc : Nat} {ls : Array Slot} {rest : List Value} {D : va_G} {cy : Nat → ClassId} {ad : Nat → Nat} {b a va : Nat} {μ : gM} {P T : va_W} {own : String}
theorem h_getC (hx : p.tables.exec = Jvm.exec) (hb : c.code = cc) (hml : c.maxLocals = ls.size) (hown : s.vm.findClass own = some m.cls) (E : hE l D cy ad b s) (hM : hW D cy ad b μ P T H) {n idx : Nat} {g : Nat → Option Nat} (ha : (a, .inl (cy 4, n, .inr (.inr (.inr (.inr g))))) ∈ hws cy ad μ P T) (hl : gw (.methodLink own idx ⟨"java/lang/Object", "getClass", "()Ljava/lang/Class;"⟩)) (hRf : 1 ≤ R.frames) (hRl : (rest.map fun v => v.category).sum + 14 ≤ R.locals) (hdg : decode cc pc = .ok (.invokevirtual idx, 3))
    (kk : W p l e R s m args below meth c H locs cells slots Q (F0 m (pc + 3) ls (.ref (ad 464) :: rest))) : W p l e R s m args below meth c H locs cells slots Q (F0 m pc ls (.ref a :: rest)) := by
  obtain ⟨k, ha⟩ := List.getElem?_of_mem ha
  have hc := hM.1 k _ ha
  exact va_getC (C := "[Ljava/lang/Object;") hx hb hml hown (E.kw hl) (va_Dc.use E.x.2.2.2.1) (E.kw kw_1579) (E.kw kw_840) (E.kw kw_858) E.x.2.2.1 ⟨_, hc, rfl, va_nmO (E.1.1.2 4 (cy 4, .object "java/lang/Object") rfl).2 rfl⟩ hRf hRl hdg kk
theorem h_cpyM (hx : p.tables.exec = Jvm.exec) (hb : c.code = cc) (hml : c.maxLocals = ls.size) (hown : s.vm.findClass own = some m.cls) (E : hE l D cy ad b s) (hM : hW D cy ad b μ P T H) (hS : va_S (hA b) s.heap H locs) {idx : Nat} (hl : gYC own idx) {n0 : Nat} {f : Nat → Option Nat} (hv : (va, .inl (cy 4, n0, .inr (.inr (.inr (.inr f))))) ∈ hws cy ad μ P T) {j n1 : Nat} {g : Nat → Option Nat} (ha : T[j]? = some (a, .inl (cy 4, n1, .inr (.inr (.inr (.inr g)))))) {n : Nat} (h4 : n ≤ n0) (h5 : n ≤ n1) (h0 : n0 < 2 ^ 31) (h1 : n1 < 2 ^ 31) (hel : ∀ i, i < n → ∀ y, f i = some y → ∃ vs, (y, .inr (13, vs)) ∈ hws cy ad μ P T)
    (hRf : 1 ≤ R.frames) (hRl : (rest.map fun v => v.category).sum + (nativeFrameWords "java/lang/System" "arraycopy" 5 + 11) ≤ R.locals) (hdg : decode cc pc = .ok (.invokestatic idx, 3))
    (kk : ∀ (H1 : Heap) (locs1 : List Loc), hW D cy ad b μ P (T.set j (a, .inl (cy 4, n1, .inr (.inr (.inr (.inr (va_cpy f g 0 0 n))))))) H1 → va_S (hA b) s.heap H1 locs1 → W p l e R s m args below meth c H1 locs1 cells slots Q (F0 m (pc + 3) ls rest)) : W p l e R s m args below meth c H locs cells slots Q (F0 m pc ls (.int (nI n) :: .int (nI 0) :: .ref a :: .int (nI 0) :: .ref va :: rest)) := by
  obtain ⟨q0, hv⟩ := List.getElem?_of_mem hv
  have e1 := nI_clamp (n := 0) (by omega)
  have e3 := nI_clamp (n := n) (by omega)
  refine va_copyM (E0 := "java/lang/Object") (E1 := "java/lang/Object") hx hb hml hown (E.kw hl.1) (E.kw hl.2.1) (E.kw hl.2.2.1) (E.kw hl.2.2.2) E.1.1 hM.1 hM.2 hS q0 (60 + (P.length + j)) 4 4 hv (ht_at ha) rfl rfl (nI_pos (by omega)) (nI_pos (by omega)) (nI_pos (by omega)) (by rw [e1, e3]; omega) (by rw [e1, e3]; omega) (fun i hi y hy => ?_) hRf hRl hdg (fun H1 locs1 hP1 hD1 hS1 => ?_)
  · rw [e3] at hi
    rw [e1, Nat.zero_add] at hy
    obtain ⟨vs, hvs⟩ := hel i hi y hy
    obtain ⟨k, hk⟩ := List.getElem?_of_mem hvs
    exact va_rAny E.1.1 hM.1 hk gC_Jx4a65c.1 (vb_asgC (E.2.1.2.2.2.1 _ (List.mem_of_getElem? (i := 1) rfl)))
  · rw [e1, e3] at hP1 hD1
    exact kk H1 locs1 (h_T hP1 hD1) hS1
end GROW
theorem dJxc12de_init_da8c8_0 : decode cJxc12de_init_da8c8 0 = .ok (.aload_n 0, 1) := by decide +kernel
theorem dJxc12de_init_da8c8_1 : decode cJxc12de_init_da8c8 1 = .ok (.invokespecial 1, 3) := by decide +kernel
theorem dJxc12de_init_da8c8_4 : decode cJxc12de_init_da8c8 4 = .ok (.aload_n 0, 1) := by decide +kernel
theorem dJxc12de_init_da8c8_5 : decode cJxc12de_init_da8c8 5 = .ok (.iconst 0, 1) := by decide +kernel
theorem dJxc12de_init_da8c8_6 : decode cJxc12de_init_da8c8 6 = .ok (.putfield 7, 3) := by decide +kernel
theorem dJxc12de_init_da8c8_9 : decode cJxc12de_init_da8c8 9 = .ok (.return_, 1) := by decide +kernel
set_option maxHeartbeats 4000000 in
set_option maxRecDepth 100000 in
theorem c_ablin {l : Launch} {D : va_G} {cy : Nat → ClassId} {ad : Nat → Nat} {b : Nat} {μ : gM} {P : va_W} {al : Nat}  : Met l yJxc12de_init_da8c8 [.code yJxc12de_init_da8c8 cJxc12de_init_da8c8 1 none] ({ frames := 2, cells := 0, slots := 0, locals := 50 } : Room) (va_Pc [.ref al] (hB l D cy ad b μ P [(al, .inr (13, [.int 0, .null, .int 0]))])) (hQ b (fun rv H => rv = none ∧ hW D cy ad b μ P [(al, .inr (13, [.int 0, .null, .int 0]))] H)) 0 0 (hA b) := by
  refine va_MetF (cc := cJxc12de_init_da8c8) (maxL := 1) (ret := none) (by decide +kernel) rfl ?_
  intro p e s m args below meth c s₁ B hml0 hv
  obtain ⟨rfl, E, hM⟩ := hv
  obtain ⟨hx, hb, hml, hown, hlocks, hr⟩ := (gF_of B hml0 : gF p s m meth c cJxc12de_init_da8c8 RJxc12de 1 none)
  have hin : meth.name = "<init>" := (name_of_methodNamed B.named B.method).1
  have hS : va_S (hA b) s.heap s.heap [] := va_S.rf
  have hl := lv_entry ([.ref al]) (n := 1) (Nat.le_of_ble_eq_true rfl)
  rw [lg_entry_eq]
  generalize (lg_sl ([.ref al]) ++ List.replicate (1 - (lg_sl ([.ref al])).length) Slot.unset).toArray = ls at hl ⊢
  have hl : lv_has ls 1 [(0, .ref al)] := hl
  refine lv_aload_n hx hb dJxc12de_init_da8c8_0 rfl (lv_at hl 0 rfl) ?_
  replace hM := hW.right (X := [(al, .inr (13, [.int 0, .null, .int 0]))]) (T := []) hM
  refine h_callI (As := []) (rest := []) hx hb (hml.trans hl.1.symm) hown E hM hS xi_Jxa1e45_init_da8c8 kw_519 (c_acinit) rfl rfl (Nat.le_of_ble_eq_true rfl) ⟨(Nat.le_of_ble_eq_true rfl), (Nat.le_of_ble_eq_true rfl)⟩ ⟨(Nat.le_of_ble_eq_true rfl), (Nat.le_of_ble_eq_true rfl)⟩ dJxc12de_init_da8c8_1 (fun rv H locs hZ hS => ?_)
  obtain ⟨rfl, hM⟩ := hZ
  replace hM := hW.left (X := [(al, .inr (13, [.int 0, .null, .int 0]))]) (T := []) hM
  replace hM : hW D cy ad b μ P [(al, .inr (13, [.int 0, .null, .int 0]))] H := hM
  refine lv_aload_n hx hb dJxc12de_init_da8c8_4 rfl (lv_at hl 0 rfl) ?_
  refine lv_iconst (v := (0 : Int32)) hx hb dJxc12de_init_da8c8_5 (by decide) ?_
  refine h_put (j := 0) hx hb hown E hM hS rfl gC_Jx4a65c 0 (by decide) rfl (tyJx4a65c_ok 0 (by decide)) rfl rfl kw_529 (Nat.le_of_ble_eq_true rfl) dJxc12de_init_da8c8_6 (fun H locs hM hS => ?_)
  replace hM : hW D cy ad b μ P [(al, .inr (13, [.int (0 : Int32), .null, .int 0]))] H := hM
  exact h_vret hx hb hr hlocks (Nat.le_of_ble_eq_true rfl) (Nat.le_of_ble_eq_true rfl) ⟨rfl, hM⟩ hS dJxc12de_init_da8c8_9
theorem xi_Jxc12de_init_da8c8 : gYI yJxc12de_init_da8c8 cJxc12de_init_da8c8 1 0 := ⟨kw_518, kw_60, kw_517, ⟨by decide +kernel, by decide +kernel⟩, by decide +kernel, rfl⟩
theorem dJx4a65c_init_da8c8_0 : decode cJx4a65c_init_da8c8 0 = .ok (.aload_n 0, 1) := by decide +kernel
theorem dJx4a65c_init_da8c8_1 : decode cJx4a65c_init_da8c8 1 = .ok (.invokespecial 1, 3) := by decide +kernel
theorem dJx4a65c_init_da8c8_4 : decode cJx4a65c_init_da8c8 4 = .ok (.aload_n 0, 1) := by decide +kernel
theorem dJx4a65c_init_da8c8_5 : decode cJx4a65c_init_da8c8 5 = .ok (.getstatic 39, 3) := by decide +kernel
theorem dJx4a65c_init_da8c8_8 : decode cJx4a65c_init_da8c8 8 = .ok (.putfield 9, 3) := by decide +kernel
theorem dJx4a65c_init_da8c8_11 : decode cJx4a65c_init_da8c8 11 = .ok (.return_, 1) := by decide +kernel
set_option maxHeartbeats 4000000 in
set_option maxRecDepth 100000 in
theorem c_alin {l : Launch} {D : va_G} {cy : Nat → ClassId} {ad : Nat → Nat} {b : Nat} {μ : gM} {P : va_W} {al : Nat}  : Met l yJx4a65c_init_da8c8 [.code yJx4a65c_init_da8c8 cJx4a65c_init_da8c8 1 none] ({ frames := 3, cells := 0, slots := 0, locals := 70 } : Room) (va_Pc [.ref al] (hB l D cy ad b μ P [(al, .inr (13, [.int 0, .null, .int 0]))])) (hQ b (fun rv H => rv = none ∧ hW D cy ad b μ P [(al, .inr (13, [.int 0, .ref (ad 461), .int 0]))] H)) 0 0 (hA b) := by
  refine va_MetF (cc := cJx4a65c_init_da8c8) (maxL := 1) (ret := none) (by decide +kernel) rfl ?_
  intro p e s m args below meth c s₁ B hml0 hv
  obtain ⟨rfl, E, hM⟩ := hv
  obtain ⟨hx, hb, hml, hown, hlocks, hr⟩ := (gF_of B hml0 : gF p s m meth c cJx4a65c_init_da8c8 RJx4a65c 1 none)
  have hin : meth.name = "<init>" := (name_of_methodNamed B.named B.method).1
  have hS : va_S (hA b) s.heap s.heap [] := va_S.rf
  have hl := lv_entry ([.ref al]) (n := 1) (Nat.le_of_ble_eq_true rfl)
  rw [lg_entry_eq]
  generalize (lg_sl ([.ref al]) ++ List.replicate (1 - (lg_sl ([.ref al])).length) Slot.unset).toArray = ls at hl ⊢
  have hl : lv_has ls 1 [(0, .ref al)] := hl
  refine lv_aload_n hx hb dJx4a65c_init_da8c8_0 rfl (lv_at hl 0 rfl) ?_
  refine h_callI (As := []) (rest := []) hx hb (hml.trans hl.1.symm) hown E hM hS xi_Jxc12de_init_da8c8 kw_516 (c_ablin) rfl rfl (Nat.le_of_ble_eq_true rfl) ⟨(Nat.le_of_ble_eq_true rfl), (Nat.le_of_ble_eq_true rfl)⟩ ⟨(Nat.le_of_ble_eq_true rfl), (Nat.le_of_ble_eq_true rfl)⟩ dJx4a65c_init_da8c8_1 (fun rv H locs hZ hS => ?_)
  obtain ⟨rfl, hM⟩ := hZ
  refine lv_aload_n hx hb dJx4a65c_init_da8c8_4 rfl (lv_at hl 0 rfl) ?_
  refine va_gets (v := .ref (ad 461)) hx hb E.2.2.2.2.2.2.2.1 hS hown (E.kw kw_523) (fun _ h9 => h9) dJx4a65c_init_da8c8_5 ?_
  refine h_put (j := 0) hx hb hown E hM hS rfl gC_Jx4a65c 1 (by decide) rfl (tyJx4a65c_ok 1 (by decide)) rfl rfl kw_525 (Nat.le_of_ble_eq_true rfl) dJx4a65c_init_da8c8_8 (fun H locs hM hS => ?_)
  replace hM : hW D cy ad b μ P [(al, .inr (13, [.int 0, .ref (ad 461), .int 0]))] H := hM
  exact h_vret hx hb hr hlocks (Nat.le_of_ble_eq_true rfl) (Nat.le_of_ble_eq_true rfl) ⟨rfl, hM⟩ hS dJx4a65c_init_da8c8_11
theorem dJx4a65c_grow_92f84_0 : decode cJx4a65c_grow_92f84 0 = .ok (.aload_n 0, 1) := by decide +kernel
theorem dJx4a65c_grow_92f84_1 : decode cJx4a65c_grow_92f84 1 = .ok (.getfield 9, 3) := by decide +kernel
theorem dJx4a65c_grow_92f84_4 : decode cJx4a65c_grow_92f84 4 = .ok (.arraylength, 1) := by decide +kernel
theorem dJx4a65c_grow_92f84_5 : decode cJx4a65c_grow_92f84 5 = .ok (.istore_n 2, 1) := by decide +kernel
theorem dJx4a65c_grow_92f84_6 : decode cJx4a65c_grow_92f84 6 = .ok (.iload_n 2, 1) := by decide +kernel
theorem dJx4a65c_grow_92f84_7 : decode cJx4a65c_grow_92f84 7 = .ok (.ifCond .gt 13, 3) := by decide +kernel
theorem dJx4a65c_grow_92f84_10 : decode cJx4a65c_grow_92f84 10 = .ok (.aload_n 0, 1) := by decide +kernel
theorem dJx4a65c_grow_92f84_11 : decode cJx4a65c_grow_92f84 11 = .ok (.getfield 9, 3) := by decide +kernel
theorem dJx4a65c_grow_92f84_14 : decode cJx4a65c_grow_92f84 14 = .ok (.getstatic 39, 3) := by decide +kernel
theorem dJx4a65c_grow_92f84_17 : decode cJx4a65c_grow_92f84 17 = .ok (.if_acmp .eq 28, 3) := by decide +kernel
theorem dJx4a65c_grow_92f84_20 : decode cJx4a65c_grow_92f84 20 = .ok (.iload_n 2, 1) := by decide +kernel
theorem dJx4a65c_grow_92f84_21 : decode cJx4a65c_grow_92f84 21 = .ok (.iload_n 1, 1) := by decide +kernel
theorem dJx4a65c_grow_92f84_22 : decode cJx4a65c_grow_92f84 22 = .ok (.iload_n 2, 1) := by decide +kernel
theorem dJx4a65c_grow_92f84_23 : decode cJx4a65c_grow_92f84 23 = .ok (.isub, 1) := by decide +kernel
theorem dJx4a65c_grow_92f84_24 : decode cJx4a65c_grow_92f84 24 = .ok (.iload_n 2, 1) := by decide +kernel
theorem dJx4a65c_grow_92f84_25 : decode cJx4a65c_grow_92f84 25 = .ok (.iconst 1, 1) := by decide +kernel
theorem dJx4a65c_grow_92f84_26 : decode cJx4a65c_grow_92f84 26 = .ok (.ishr, 1) := by decide +kernel
theorem dJx4a65c_grow_92f84_27 : decode cJx4a65c_grow_92f84 27 = .ok (.invokestatic 73, 3) := by decide +kernel
theorem dJx4a65c_grow_92f84_30 : decode cJx4a65c_grow_92f84 30 = .ok (.istore_n 3, 1) := by decide +kernel
theorem dJx4a65c_grow_92f84_31 : decode cJx4a65c_grow_92f84 31 = .ok (.aload_n 0, 1) := by decide +kernel
theorem dJx4a65c_grow_92f84_32 : decode cJx4a65c_grow_92f84 32 = .ok (.aload_n 0, 1) := by decide +kernel
theorem dJx4a65c_grow_92f84_33 : decode cJx4a65c_grow_92f84 33 = .ok (.getfield 9, 3) := by decide +kernel
theorem dJx4a65c_grow_92f84_36 : decode cJx4a65c_grow_92f84 36 = .ok (.iload_n 3, 1) := by decide +kernel
theorem dJx4a65c_grow_92f84_37 : decode cJx4a65c_grow_92f84 37 = .ok (.invokestatic 66, 3) := by decide +kernel
theorem dJx4a65c_grow_92f84_40 : decode cJx4a65c_grow_92f84 40 = .ok (.dup_x1, 1) := by decide +kernel
theorem dJx4a65c_grow_92f84_41 : decode cJx4a65c_grow_92f84 41 = .ok (.putfield 9, 3) := by decide +kernel
theorem dJx4a65c_grow_92f84_44 : decode cJx4a65c_grow_92f84 44 = .ok (.areturn, 1) := by decide +kernel
theorem dJx4a65c_grow_92f84_45 : decode cJx4a65c_grow_92f84 45 = .ok (.aload_n 0, 1) := by decide +kernel
theorem dJx4a65c_grow_92f84_46 : decode cJx4a65c_grow_92f84 46 = .ok (.bipush 10, 2) := by decide +kernel
theorem dJx4a65c_grow_92f84_48 : decode cJx4a65c_grow_92f84 48 = .ok (.iload_n 1, 1) := by decide +kernel
theorem dJx4a65c_grow_92f84_49 : decode cJx4a65c_grow_92f84 49 = .ok (.invokestatic 79, 3) := by decide +kernel
theorem dJx4a65c_grow_92f84_52 : decode cJx4a65c_grow_92f84 52 = .ok (.anewarray 7, 3) := by decide +kernel
theorem dJx4a65c_grow_92f84_55 : decode cJx4a65c_grow_92f84 55 = .ok (.dup_x1, 1) := by decide +kernel
theorem dJx4a65c_grow_92f84_56 : decode cJx4a65c_grow_92f84 56 = .ok (.putfield 9, 3) := by decide +kernel
theorem dJx4a65c_grow_92f84_59 : decode cJx4a65c_grow_92f84 59 = .ok (.areturn, 1) := by decide +kernel
set_option maxHeartbeats 4000000 in
set_option maxRecDepth 100000 in
theorem c_gr0 {l : Launch} {D : va_G} {cy : Nat → ClassId} {ad : Nat → Nat} {b : Nat} {μ : gM} {P : va_W} {al : Nat} {mc : Int32}     : Met l yJx4a65c_grow_92f84 [.code yJx4a65c_grow_92f84 cJx4a65c_grow_92f84 4 (some (.array (.object "java/lang/Object")))] ({ frames := 1, cells := 1, slots := 10, locals := 24 } : Room) (va_Pc [.ref al, .int (nI 1)] (hB l D cy ad b μ P [(al, .inr (13, [.int mc, .ref (ad 461), .int (nI 0)]))])) (hQ b (fun rv H => ∃ ar9, rv = some (.ref ar9) ∧ hW D cy ad b μ P [(al, .inr (13, [.int mc, .ref ar9, .int (nI 0)])), (ar9, .inl (cy 4, 10, .inr (.inr (.inr (.inr (fun _ => none))))))] H)) 1 10 (hA b) := by
  refine va_MetF (cc := cJx4a65c_grow_92f84) (maxL := 4) (ret := (some (.array (.object "java/lang/Object")))) (by decide +kernel) rfl ?_
  intro p e s m args below meth c s₁ B hml0 hv
  obtain ⟨rfl, E, hM⟩ := hv
  obtain ⟨hx, hb, hml, hown, hlocks, hr⟩ := (gF_of B hml0 : gF p s m meth c cJx4a65c_grow_92f84 RJx4a65c 4 (some (.array (.object "java/lang/Object"))))
  have hS : va_S (hA b) s.heap s.heap [] := va_S.rf
  have hl := lv_entry ([.ref al, .int (nI 1)]) (n := 4) (Nat.le_of_ble_eq_true rfl)
  rw [lg_entry_eq]
  generalize (lg_sl ([.ref al, .int (nI 1)]) ++ List.replicate (4 - (lg_sl ([.ref al, .int (nI 1)])).length) Slot.unset).toArray = ls at hl ⊢
  have hl : lv_has ls 4 [(0, .ref al), (1, .int (nI 1))] := hl
  refine lv_aload_n hx hb dJx4a65c_grow_92f84_0 rfl (lv_at hl 0 rfl) ?_
  refine h_get hx hb hown E hM (ht_m (List.mem_of_getElem? (i := 0) rfl)) gC_Jx4a65c 1 (by decide) (v := .ref (ad 461)) rfl kw_525 dJx4a65c_grow_92f84_1 ?_
  refine va_tlen hx hb E.2.2.2.2.2.2.2.2.1 hS (v := nI 0) rfl dJx4a65c_grow_92f84_4 ?_
  refine lv_istore_n (lv' := [(2, .int (nI 0)), (0, .ref al), (1, .int (nI 1))]) hx hb dJx4a65c_grow_92f84_5 rfl hl (by decide) rfl (fun ls hl => ?_)
  refine lv_iload_n hx hb dJx4a65c_grow_92f84_6 rfl (lv_at hl 0 rfl) ?_
  refine lv_if_gt (tgt := 20) hx hb dJx4a65c_grow_92f84_7 (by decide) (fun c1 => ?_) (fun c1 => ?_)
  · exact absurd c1 (by decide)
  · refine lv_aload_n hx hb dJx4a65c_grow_92f84_10 rfl (lv_at hl 1 rfl) ?_
    refine h_get hx hb hown E hM (ht_m (List.mem_of_getElem? (i := 0) rfl)) gC_Jx4a65c 1 (by decide) (v := .ref (ad 461)) rfl kw_525 dJx4a65c_grow_92f84_11 ?_
    refine va_gets (v := .ref (ad 461)) hx hb E.2.2.2.2.2.2.2.1 hS hown (E.kw kw_523) (fun _ h9 => h9) dJx4a65c_grow_92f84_14 ?_
    refine lv_acmp_eq (rx := some (ad 461)) (ry := some (ad 461)) (tgt := 45) hx hb dJx4a65c_grow_92f84_17 (by decide) (fun c2 => ?_) (fun c2 => ?_)
    · refine lv_aload_n hx hb dJx4a65c_grow_92f84_45 rfl (lv_at hl 1 rfl) ?_
      refine lv_bipush (v := (10 : Int32)) hx hb dJx4a65c_grow_92f84_46 (by decide) ?_
      refine lv_iload_n hx hb dJx4a65c_grow_92f84_48 rfl (lv_at hl 2 rfl) ?_
      refine va_mmax hx hb (hml.trans hl.1.symm) hown (E.kw kw_865) (E.kw kw_604) (E.kw kw_67) (E.kw kw_605) (Nat.le_of_ble_eq_true rfl) (Nat.le_of_ble_eq_true rfl) (Nat.le_of_ble_eq_true rfl) (Nat.le_of_ble_eq_true rfl) dJx4a65c_grow_92f84_49 ?_
      rw [show (if (10 : Int32) < nI 1 then nI 1 else (10 : Int32)) = nI 10 from (by decide)]
      refine h_newq (N := 10) hx hb hown E hM hS rfl (by decide) kw_866 (Nat.le_of_ble_eq_true rfl) (Nat.le_of_ble_eq_true rfl) dJx4a65c_grow_92f84_52 (fun a3 H hM hS => ?_)
      replace hM : hW D cy ad b μ P [(al, .inr (13, [.int mc, .ref (ad 461), .int (nI 0)])), (a3, .inl (cy 4, 10, .inr (.inr (.inr (.inr (fun _ => none))))))] H := hM
      refine lv_dup_x1 hx hb dJx4a65c_grow_92f84_55 rfl rfl ?_
      refine h_put (j := 0) hx hb hown E hM hS rfl gC_Jx4a65c 1 (by decide) rfl (tyJx4a65c_ok 1 (by decide)) rfl rfl kw_525 (Nat.le_of_ble_eq_true rfl) dJx4a65c_grow_92f84_56 (fun H locs hM hS => ?_)
      replace hM : hW D cy ad b μ P [(al, .inr (13, [.int mc, .ref a3, .int (nI 0)])), (a3, .inl (cy 4, 10, .inr (.inr (.inr (.inr (fun _ => none))))))] H := hM
      exact h_aret hx hb hr (Or.inr ⟨_, rfl⟩) hlocks (Nat.le_of_ble_eq_true rfl) (Nat.le_of_ble_eq_true rfl) ⟨_, rfl, hM⟩ hS dJx4a65c_grow_92f84_59
    · exact absurd rfl c2
theorem xy_Jx4a65c_grow_92f84 : gYV yJx4a65c_grow_92f84 cJx4a65c_grow_92f84 4 (some (.array (.object "java/lang/Object"))) 1 := ⟨kw_834, kw_61, kw_833, kw_7, ⟨by decide +kernel, by decide +kernel⟩, by decide +kernel⟩
theorem dJx4a65c_grow_d5877_0 : decode cJx4a65c_grow_d5877 0 = .ok (.aload_n 0, 1) := by decide +kernel
theorem dJx4a65c_grow_d5877_1 : decode cJx4a65c_grow_d5877 1 = .ok (.aload_n 0, 1) := by decide +kernel
theorem dJx4a65c_grow_d5877_2 : decode cJx4a65c_grow_d5877 2 = .ok (.getfield 48, 3) := by decide +kernel
theorem dJx4a65c_grow_d5877_5 : decode cJx4a65c_grow_d5877 5 = .ok (.iconst 1, 1) := by decide +kernel
theorem dJx4a65c_grow_d5877_6 : decode cJx4a65c_grow_d5877 6 = .ok (.iadd, 1) := by decide +kernel
theorem dJx4a65c_grow_d5877_7 : decode cJx4a65c_grow_d5877 7 = .ok (.invokevirtual 69, 3) := by decide +kernel
theorem dJx4a65c_grow_d5877_10 : decode cJx4a65c_grow_d5877 10 = .ok (.areturn, 1) := by decide +kernel
set_option maxHeartbeats 4000000 in
set_option maxRecDepth 100000 in
theorem c_gr0p {l : Launch} {D : va_G} {cy : Nat → ClassId} {ad : Nat → Nat} {b : Nat} {μ : gM} {P : va_W} {al : Nat} {mc : Int32}     : Met l yJx4a65c_grow_d5877 [.code yJx4a65c_grow_d5877 cJx4a65c_grow_d5877 1 (some (.array (.object "java/lang/Object")))] ({ frames := 2, cells := 1, slots := 10, locals := 47 } : Room) (va_Pc [.ref al] (hB l D cy ad b μ P [(al, .inr (13, [.int mc, .ref (ad 461), .int (nI 0)]))])) (hQ b (fun rv H => ∃ ar9, rv = some (.ref ar9) ∧ hW D cy ad b μ P [(al, .inr (13, [.int mc, .ref ar9, .int (nI 0)])), (ar9, .inl (cy 4, 10, .inr (.inr (.inr (.inr (fun _ => none))))))] H)) 1 10 (hA b) := by
  refine va_MetF (cc := cJx4a65c_grow_d5877) (maxL := 1) (ret := (some (.array (.object "java/lang/Object")))) (by decide +kernel) rfl ?_
  intro p e s m args below meth c s₁ B hml0 hv
  obtain ⟨rfl, E, hM⟩ := hv
  obtain ⟨hx, hb, hml, hown, hlocks, hr⟩ := (gF_of B hml0 : gF p s m meth c cJx4a65c_grow_d5877 RJx4a65c 1 (some (.array (.object "java/lang/Object"))))
  have hS : va_S (hA b) s.heap s.heap [] := va_S.rf
  have hl := lv_entry ([.ref al]) (n := 1) (Nat.le_of_ble_eq_true rfl)
  rw [lg_entry_eq]
  generalize (lg_sl ([.ref al]) ++ List.replicate (1 - (lg_sl ([.ref al])).length) Slot.unset).toArray = ls at hl ⊢
  have hl : lv_has ls 1 [(0, .ref al)] := hl
  refine lv_aload_n hx hb dJx4a65c_grow_d5877_0 rfl (lv_at hl 0 rfl) ?_
  refine lv_aload_n hx hb dJx4a65c_grow_d5877_1 rfl (lv_at hl 0 rfl) ?_
  refine h_get hx hb hown E hM (ht_m (List.mem_of_getElem? (i := 0) rfl)) gC_Jx4a65c 2 (by decide) (v := .int (nI 0)) rfl kw_528 dJx4a65c_grow_d5877_2 ?_
  refine lv_iconst (v := (1 : Int32)) hx hb dJx4a65c_grow_d5877_5 (by decide) ?_
  refine lv_iadd hx hb dJx4a65c_grow_d5877_6 ?_
  rw [show (nI 0 + (1 : Int32)) = nI 1 from (by decide)]
  refine h_callV (As := [.int (nI 1)]) (rest := []) hx hb (hml.trans hl.1.symm) hown E hM hS xy_Jx4a65c_grow_92f84 kw_831 (c_gr0) (ht_m (List.mem_of_getElem? (i := 0) rfl)) gC_Jx4a65c.1 rfl rfl (Nat.le_of_ble_eq_true rfl) ⟨(Nat.le_of_ble_eq_true rfl), (Nat.le_of_ble_eq_true rfl)⟩ ⟨(Nat.le_of_ble_eq_true rfl), (Nat.le_of_ble_eq_true rfl)⟩ dJx4a65c_grow_d5877_7 (fun rv H locs hZ hS => ?_)
  obtain ⟨ar9, rfl, hM⟩ := hZ
  replace hM : hW D cy ad b μ P [(al, .inr (13, [.int mc, .ref ar9, .int (nI 0)])), (ar9, .inl (cy 4, 10, .inr (.inr (.inr (.inr (fun _ => none))))))] H := hM
  exact h_aret hx hb hr (Or.inr ⟨_, rfl⟩) hlocks (Nat.le_of_ble_eq_true rfl) (Nat.le_of_ble_eq_true rfl) ⟨_, rfl, hM⟩ hS dJx4a65c_grow_d5877_10
theorem xy_Jx4a65c_grow_d5877 : gYV yJx4a65c_grow_d5877 cJx4a65c_grow_d5877 1 (some (.array (.object "java/lang/Object"))) 0 := ⟨kw_830, kw_61, kw_829, kw_6, ⟨by decide +kernel, by decide +kernel⟩, by decide +kernel⟩
set_option maxHeartbeats 4000000 in
set_option maxRecDepth 100000 in
theorem c_addp0A {l : Launch} {D : va_G} {cy : Nat → ClassId} {ad : Nat → Nat} {b : Nat} {μ : gM} {P : va_W} {al v kk9 : Nat} {mc : Int32}  {f9 : Nat → Int32}  (hv9 : (v, .inl (cy 0, kk9, .inl f9)) ∈ P) : Met l yJx4a65c_add_72be8 [.code yJx4a65c_add_72be8 cJx4a65c_add_72be8 4 none] ({ frames := 3, cells := 1, slots := 10, locals := 67 } : Room) (va_Pc [.ref al, .ref v, .ref (ad 461), .int (nI 0)] (hB l D cy ad b μ P [(al, .inr (13, [.int mc, .ref (ad 461), .int (nI 0)]))])) (hQ b (fun rv H => ∃ ar9, rv = none ∧ hW D cy ad b μ P [(al, .inr (13, [.int mc, .ref ar9, .int (nI 1)])), (ar9, .inl (cy 4, 10, .inr (.inr (.inr (.inr (va_up (fun _ => none) 0 (some v)))))))] H)) 1 10 (hA b) := by
  refine va_MetF (cc := cJx4a65c_add_72be8) (maxL := 4) (ret := none) (by decide +kernel) rfl ?_
  intro p e s m args below meth c s₁ B hml0 hv
  obtain ⟨rfl, E, hM⟩ := hv
  obtain ⟨hx, hb, hml, hown, hlocks, hr⟩ := (gF_of B hml0 : gF p s m meth c cJx4a65c_add_72be8 RJx4a65c 4 none)
  have hS : va_S (hA b) s.heap s.heap [] := va_S.rf
  have hl := lv_entry ([.ref al, .ref v, .ref (ad 461), .int (nI 0)]) (n := 4) (Nat.le_of_ble_eq_true rfl)
  rw [lg_entry_eq]
  generalize (lg_sl ([.ref al, .ref v, .ref (ad 461), .int (nI 0)]) ++ List.replicate (4 - (lg_sl ([.ref al, .ref v, .ref (ad 461), .int (nI 0)])).length) Slot.unset).toArray = ls at hl ⊢
  have hl : lv_has ls 4 [(0, .ref al), (1, .ref v), (2, .ref (ad 461)), (3, .int (nI 0))] := hl
  refine lv_iload_n hx hb dJx4a65c_add_72be8_0 rfl (lv_at hl 3 rfl) ?_
  refine lv_aload_n hx hb dJx4a65c_add_72be8_1 rfl (lv_at hl 2 rfl) ?_
  refine va_tlen hx hb E.2.2.2.2.2.2.2.2.1 hS (v := nI 0) rfl dJx4a65c_add_72be8_2 ?_
  refine lv_icmp_ne (tgt := 11) hx hb dJx4a65c_add_72be8_3 (by decide) (fun c1 => ?_) (fun c1 => ?_)
  · exact absurd rfl c1
  · refine lv_aload_n hx hb dJx4a65c_add_72be8_6 rfl (lv_at hl 0 rfl) ?_
    refine h_callV (As := []) (rest := []) hx hb (hml.trans hl.1.symm) hown E hM hS xy_Jx4a65c_grow_d5877 kw_827 (c_gr0p) (ht_m (List.mem_of_getElem? (i := 0) rfl)) gC_Jx4a65c.1 rfl rfl (Nat.le_of_ble_eq_true rfl) ⟨(Nat.le_of_ble_eq_true rfl), (Nat.le_of_ble_eq_true rfl)⟩ ⟨(Nat.le_of_ble_eq_true rfl), (Nat.le_of_ble_eq_true rfl)⟩ dJx4a65c_add_72be8_7 (fun rv H locs hZ hS => ?_)
    obtain ⟨ar9, rfl, hM⟩ := hZ
    replace hM : hW D cy ad b μ P [(al, .inr (13, [.int mc, .ref ar9, .int (nI 0)])), (ar9, .inl (cy 4, 10, .inr (.inr (.inr (.inr (fun _ => none))))))] H := hM
    refine lv_astore_n (lv' := [(2, .ref ar9), (0, .ref al), (1, .ref v), (3, .int (nI 0))]) hx hb dJx4a65c_add_72be8_10 rfl hl (by decide) rfl (fun ls hl => ?_)
    refine lv_aload_n hx hb dJx4a65c_add_72be8_11 rfl (lv_at hl 0 rfl) ?_
    refine lv_iload_n hx hb dJx4a65c_add_72be8_12 rfl (lv_at hl 3 rfl) ?_
    refine lv_aload_n hx hb dJx4a65c_add_72be8_13 rfl (lv_at hl 2 rfl) ?_
    refine h_astA (j := 1) hx hb E hM hS rfl (hp_m hv9) (i := nI 0) (x_in (N := 10) (by omega) (by omega)) dJx4a65c_add_72be8_14 (fun H locs hM hS => ?_)
    rw [nI_clamp (by omega)] at hM
    replace hM : hW D cy ad b μ P [(al, .inr (13, [.int mc, .ref ar9, .int (nI 0)])), (ar9, .inl (cy 4, 10, .inr (.inr (.inr (.inr (va_up (fun _ => none) 0 (some v)))))))] H := hM
    refine lv_aload_n hx hb dJx4a65c_add_72be8_15 rfl (lv_at hl 1 rfl) ?_
    refine lv_iload_n hx hb dJx4a65c_add_72be8_16 rfl (lv_at hl 3 rfl) ?_
    refine lv_iconst (v := (1 : Int32)) hx hb dJx4a65c_add_72be8_17 (by decide) ?_
    refine lv_iadd hx hb dJx4a65c_add_72be8_18 ?_
    rw [show (nI 0 + (1 : Int32)) = nI 1 from (by decide)]
    refine h_put (j := 0) hx hb hown E hM hS rfl gC_Jx4a65c 2 (by decide) rfl (tyJx4a65c_ok 2 (by decide)) rfl rfl kw_528 (Nat.le_of_ble_eq_true rfl) dJx4a65c_add_72be8_19 (fun H locs hM hS => ?_)
    replace hM : hW D cy ad b μ P [(al, .inr (13, [.int mc, .ref ar9, .int (nI 1)])), (ar9, .inl (cy 4, 10, .inr (.inr (.inr (.inr (va_up (fun _ => none) 0 (some v)))))))] H := hM
    exact h_vret hx hb hr hlocks (Nat.le_of_ble_eq_true rfl) (Nat.le_of_ble_eq_true rfl) ⟨_, rfl, hM⟩ hS dJx4a65c_add_72be8_22
set_option maxHeartbeats 4000000 in
set_option maxRecDepth 100000 in
theorem c_add0A {l : Launch} {D : va_G} {cy : Nat → ClassId} {ad : Nat → Nat} {b : Nat} {μ : gM} {P : va_W} {al v kk9 : Nat} {mc : Int32}  {f9 : Nat → Int32}  (hv9 : (v, .inl (cy 0, kk9, .inl f9)) ∈ P) : Met l yJx4a65c_add_9ea2d [.code yJx4a65c_add_9ea2d cJx4a65c_add_9ea2d 2 (some .boolean)] ({ frames := 4, cells := 1, slots := 10, locals := 90 } : Room) (va_Pc [.ref al, .ref v] (hB l D cy ad b μ P [(al, .inr (13, [.int mc, .ref (ad 461), .int (nI 0)]))])) (hQ b (fun rv H => ∃ ar9, rv = some (.int 1) ∧ hW D cy ad b μ P [(al, .inr (13, [.int (mc + (1 : Int32)), .ref ar9, .int (nI 1)])), (ar9, .inl (cy 4, 10, .inr (.inr (.inr (.inr (va_up (fun _ => none) 0 (some v)))))))] H)) 1 10 (hA b) := by
  refine va_MetF (cc := cJx4a65c_add_9ea2d) (maxL := 2) (ret := (some .boolean)) (by decide +kernel) rfl ?_
  intro p e s m args below meth c s₁ B hml0 hv
  obtain ⟨rfl, E, hM⟩ := hv
  obtain ⟨hx, hb, hml, hown, hlocks, hr⟩ := (gF_of B hml0 : gF p s m meth c cJx4a65c_add_9ea2d RJx4a65c 2 (some .boolean))
  have hS : va_S (hA b) s.heap s.heap [] := va_S.rf
  have hl := lv_entry ([.ref al, .ref v]) (n := 2) (Nat.le_of_ble_eq_true rfl)
  rw [lg_entry_eq]
  generalize (lg_sl ([.ref al, .ref v]) ++ List.replicate (2 - (lg_sl ([.ref al, .ref v])).length) Slot.unset).toArray = ls at hl ⊢
  have hl : lv_has ls 2 [(0, .ref al), (1, .ref v)] := hl
  refine lv_aload_n hx hb dJx4a65c_add_9ea2d_0 rfl (lv_at hl 0 rfl) ?_
  refine lv_dup hx hb dJx4a65c_add_9ea2d_1 rfl ?_
  refine h_getU hx hb hown E hM (ht_m (List.mem_of_getElem? (i := 0) rfl)) gC_Jx4a65c 0 (by decide) (v := .int mc) rfl kw_532 kz_531 dJx4a65c_add_9ea2d_2 ?_
  refine lv_iconst (v := (1 : Int32)) hx hb dJx4a65c_add_9ea2d_5 (by decide) ?_
  refine lv_iadd hx hb dJx4a65c_add_9ea2d_6 ?_
  refine h_putU (j := 0) hx hb hown E hM hS rfl gC_Jx4a65c 0 (by decide) rfl (tyJx4a65c_ok 0 (by decide)) rfl rfl kw_532 kz_531 (Nat.le_of_ble_eq_true rfl) dJx4a65c_add_9ea2d_7 (fun H locs hM hS => ?_)
  replace hM : hW D cy ad b μ P [(al, .inr (13, [.int (mc + (1 : Int32)), .ref (ad 461), .int (nI 0)]))] H := hM
  refine lv_aload_n hx hb dJx4a65c_add_9ea2d_10 rfl (lv_at hl 0 rfl) ?_
  refine lv_aload_n hx hb dJx4a65c_add_9ea2d_11 rfl (lv_at hl 1 rfl) ?_
  refine lv_aload_n hx hb dJx4a65c_add_9ea2d_12 rfl (lv_at hl 0 rfl) ?_
  refine h_get hx hb hown E hM (ht_m (List.mem_of_getElem? (i := 0) rfl)) gC_Jx4a65c 1 (by decide) (v := .ref (ad 461)) rfl kw_525 dJx4a65c_add_9ea2d_13 ?_
  refine lv_aload_n hx hb dJx4a65c_add_9ea2d_16 rfl (lv_at hl 0 rfl) ?_
  refine h_get hx hb hown E hM (ht_m (List.mem_of_getElem? (i := 0) rfl)) gC_Jx4a65c 2 (by decide) (v := .int (nI 0)) rfl kw_528 dJx4a65c_add_9ea2d_17 ?_
  refine h_callV (As := [.ref v, .ref (ad 461), .int (nI 0)]) (rest := []) hx hb (hml.trans hl.1.symm) hown E hM hS xy_Jx4a65c_add_72be8 kw_823 (c_addp0A hv9) (ht_m (List.mem_of_getElem? (i := 0) rfl)) gC_Jx4a65c.1 rfl rfl (Nat.le_of_ble_eq_true rfl) ⟨(Nat.le_of_ble_eq_true rfl), (Nat.le_of_ble_eq_true rfl)⟩ ⟨(Nat.le_of_ble_eq_true rfl), (Nat.le_of_ble_eq_true rfl)⟩ dJx4a65c_add_9ea2d_20 (fun rv H locs hZ hS => ?_)
  obtain ⟨ar9, rfl, hM⟩ := hZ
  replace hM : hW D cy ad b μ P [(al, .inr (13, [.int (mc + (1 : Int32)), .ref ar9, .int (nI 1)])), (ar9, .inl (cy 4, 10, .inr (.inr (.inr (.inr (va_up (fun _ => none) 0 (some v)))))))] H := hM
  refine lv_iconst (v := (1 : Int32)) hx hb dJx4a65c_add_9ea2d_23 (by decide) ?_
  exact h_zret hx hb hr hlocks (Nat.le_of_ble_eq_true rfl) (Nat.le_of_ble_eq_true rfl) rfl ⟨_, rfl, hM⟩ hS dJx4a65c_add_9ea2d_24
set_option maxHeartbeats 4000000 in
set_option maxRecDepth 100000 in
theorem c_addp0O {l : Launch} {D : va_G} {cy : Nat → ClassId} {ad : Nat → Nat} {b : Nat} {μ : gM} {P : va_W} {al v : Nat} {mc : Int32}   {vs9 : List Value} (hv9 : (v, .inr (13, vs9)) ∈ P) : Met l yJx4a65c_add_72be8 [.code yJx4a65c_add_72be8 cJx4a65c_add_72be8 4 none] ({ frames := 3, cells := 1, slots := 10, locals := 67 } : Room) (va_Pc [.ref al, .ref v, .ref (ad 461), .int (nI 0)] (hB l D cy ad b μ P [(al, .inr (13, [.int mc, .ref (ad 461), .int (nI 0)]))])) (hQ b (fun rv H => ∃ ar9, rv = none ∧ hW D cy ad b μ P [(al, .inr (13, [.int mc, .ref ar9, .int (nI 1)])), (ar9, .inl (cy 4, 10, .inr (.inr (.inr (.inr (va_up (fun _ => none) 0 (some v)))))))] H)) 1 10 (hA b) := by
  refine va_MetF (cc := cJx4a65c_add_72be8) (maxL := 4) (ret := none) (by decide +kernel) rfl ?_
  intro p e s m args below meth c s₁ B hml0 hv
  obtain ⟨rfl, E, hM⟩ := hv
  obtain ⟨hx, hb, hml, hown, hlocks, hr⟩ := (gF_of B hml0 : gF p s m meth c cJx4a65c_add_72be8 RJx4a65c 4 none)
  have hS : va_S (hA b) s.heap s.heap [] := va_S.rf
  have hl := lv_entry ([.ref al, .ref v, .ref (ad 461), .int (nI 0)]) (n := 4) (Nat.le_of_ble_eq_true rfl)
  rw [lg_entry_eq]
  generalize (lg_sl ([.ref al, .ref v, .ref (ad 461), .int (nI 0)]) ++ List.replicate (4 - (lg_sl ([.ref al, .ref v, .ref (ad 461), .int (nI 0)])).length) Slot.unset).toArray = ls at hl ⊢
  have hl : lv_has ls 4 [(0, .ref al), (1, .ref v), (2, .ref (ad 461)), (3, .int (nI 0))] := hl
  refine lv_iload_n hx hb dJx4a65c_add_72be8_0 rfl (lv_at hl 3 rfl) ?_
  refine lv_aload_n hx hb dJx4a65c_add_72be8_1 rfl (lv_at hl 2 rfl) ?_
  refine va_tlen hx hb E.2.2.2.2.2.2.2.2.1 hS (v := nI 0) rfl dJx4a65c_add_72be8_2 ?_
  refine lv_icmp_ne (tgt := 11) hx hb dJx4a65c_add_72be8_3 (by decide) (fun c1 => ?_) (fun c1 => ?_)
  · exact absurd rfl c1
  · refine lv_aload_n hx hb dJx4a65c_add_72be8_6 rfl (lv_at hl 0 rfl) ?_
    refine h_callV (As := []) (rest := []) hx hb (hml.trans hl.1.symm) hown E hM hS xy_Jx4a65c_grow_d5877 kw_827 (c_gr0p) (ht_m (List.mem_of_getElem? (i := 0) rfl)) gC_Jx4a65c.1 rfl rfl (Nat.le_of_ble_eq_true rfl) ⟨(Nat.le_of_ble_eq_true rfl), (Nat.le_of_ble_eq_true rfl)⟩ ⟨(Nat.le_of_ble_eq_true rfl), (Nat.le_of_ble_eq_true rfl)⟩ dJx4a65c_add_72be8_7 (fun rv H locs hZ hS => ?_)
    obtain ⟨ar9, rfl, hM⟩ := hZ
    replace hM : hW D cy ad b μ P [(al, .inr (13, [.int mc, .ref ar9, .int (nI 0)])), (ar9, .inl (cy 4, 10, .inr (.inr (.inr (.inr (fun _ => none))))))] H := hM
    refine lv_astore_n (lv' := [(2, .ref ar9), (0, .ref al), (1, .ref v), (3, .int (nI 0))]) hx hb dJx4a65c_add_72be8_10 rfl hl (by decide) rfl (fun ls hl => ?_)
    refine lv_aload_n hx hb dJx4a65c_add_72be8_11 rfl (lv_at hl 0 rfl) ?_
    refine lv_iload_n hx hb dJx4a65c_add_72be8_12 rfl (lv_at hl 3 rfl) ?_
    refine lv_aload_n hx hb dJx4a65c_add_72be8_13 rfl (lv_at hl 2 rfl) ?_
    refine h_astO (j := 1) hx hb E hM hS rfl (hp_m hv9) gC_Jx4a65c (List.mem_of_getElem? (i := 1) rfl) (i := nI 0) (x_in (N := 10) (by omega) (by omega)) dJx4a65c_add_72be8_14 (fun H locs hM hS => ?_)
    rw [nI_clamp (by omega)] at hM
    replace hM : hW D cy ad b μ P [(al, .inr (13, [.int mc, .ref ar9, .int (nI 0)])), (ar9, .inl (cy 4, 10, .inr (.inr (.inr (.inr (va_up (fun _ => none) 0 (some v)))))))] H := hM
    refine lv_aload_n hx hb dJx4a65c_add_72be8_15 rfl (lv_at hl 1 rfl) ?_
    refine lv_iload_n hx hb dJx4a65c_add_72be8_16 rfl (lv_at hl 3 rfl) ?_
    refine lv_iconst (v := (1 : Int32)) hx hb dJx4a65c_add_72be8_17 (by decide) ?_
    refine lv_iadd hx hb dJx4a65c_add_72be8_18 ?_
    rw [show (nI 0 + (1 : Int32)) = nI 1 from (by decide)]
    refine h_put (j := 0) hx hb hown E hM hS rfl gC_Jx4a65c 2 (by decide) rfl (tyJx4a65c_ok 2 (by decide)) rfl rfl kw_528 (Nat.le_of_ble_eq_true rfl) dJx4a65c_add_72be8_19 (fun H locs hM hS => ?_)
    replace hM : hW D cy ad b μ P [(al, .inr (13, [.int mc, .ref ar9, .int (nI 1)])), (ar9, .inl (cy 4, 10, .inr (.inr (.inr (.inr (va_up (fun _ => none) 0 (some v)))))))] H := hM
    exact h_vret hx hb hr hlocks (Nat.le_of_ble_eq_true rfl) (Nat.le_of_ble_eq_true rfl) ⟨_, rfl, hM⟩ hS dJx4a65c_add_72be8_22
set_option maxHeartbeats 4000000 in
set_option maxRecDepth 100000 in
theorem c_add0O {l : Launch} {D : va_G} {cy : Nat → ClassId} {ad : Nat → Nat} {b : Nat} {μ : gM} {P : va_W} {al v : Nat} {mc : Int32}   {vs9 : List Value} (hv9 : (v, .inr (13, vs9)) ∈ P) : Met l yJx4a65c_add_9ea2d [.code yJx4a65c_add_9ea2d cJx4a65c_add_9ea2d 2 (some .boolean)] ({ frames := 4, cells := 1, slots := 10, locals := 90 } : Room) (va_Pc [.ref al, .ref v] (hB l D cy ad b μ P [(al, .inr (13, [.int mc, .ref (ad 461), .int (nI 0)]))])) (hQ b (fun rv H => ∃ ar9, rv = some (.int 1) ∧ hW D cy ad b μ P [(al, .inr (13, [.int (mc + (1 : Int32)), .ref ar9, .int (nI 1)])), (ar9, .inl (cy 4, 10, .inr (.inr (.inr (.inr (va_up (fun _ => none) 0 (some v)))))))] H)) 1 10 (hA b) := by
  refine va_MetF (cc := cJx4a65c_add_9ea2d) (maxL := 2) (ret := (some .boolean)) (by decide +kernel) rfl ?_
  intro p e s m args below meth c s₁ B hml0 hv
  obtain ⟨rfl, E, hM⟩ := hv
  obtain ⟨hx, hb, hml, hown, hlocks, hr⟩ := (gF_of B hml0 : gF p s m meth c cJx4a65c_add_9ea2d RJx4a65c 2 (some .boolean))
  have hS : va_S (hA b) s.heap s.heap [] := va_S.rf
  have hl := lv_entry ([.ref al, .ref v]) (n := 2) (Nat.le_of_ble_eq_true rfl)
  rw [lg_entry_eq]
  generalize (lg_sl ([.ref al, .ref v]) ++ List.replicate (2 - (lg_sl ([.ref al, .ref v])).length) Slot.unset).toArray = ls at hl ⊢
  have hl : lv_has ls 2 [(0, .ref al), (1, .ref v)] := hl
  refine lv_aload_n hx hb dJx4a65c_add_9ea2d_0 rfl (lv_at hl 0 rfl) ?_
  refine lv_dup hx hb dJx4a65c_add_9ea2d_1 rfl ?_
  refine h_getU hx hb hown E hM (ht_m (List.mem_of_getElem? (i := 0) rfl)) gC_Jx4a65c 0 (by decide) (v := .int mc) rfl kw_532 kz_531 dJx4a65c_add_9ea2d_2 ?_
  refine lv_iconst (v := (1 : Int32)) hx hb dJx4a65c_add_9ea2d_5 (by decide) ?_
  refine lv_iadd hx hb dJx4a65c_add_9ea2d_6 ?_
  refine h_putU (j := 0) hx hb hown E hM hS rfl gC_Jx4a65c 0 (by decide) rfl (tyJx4a65c_ok 0 (by decide)) rfl rfl kw_532 kz_531 (Nat.le_of_ble_eq_true rfl) dJx4a65c_add_9ea2d_7 (fun H locs hM hS => ?_)
  replace hM : hW D cy ad b μ P [(al, .inr (13, [.int (mc + (1 : Int32)), .ref (ad 461), .int (nI 0)]))] H := hM
  refine lv_aload_n hx hb dJx4a65c_add_9ea2d_10 rfl (lv_at hl 0 rfl) ?_
  refine lv_aload_n hx hb dJx4a65c_add_9ea2d_11 rfl (lv_at hl 1 rfl) ?_
  refine lv_aload_n hx hb dJx4a65c_add_9ea2d_12 rfl (lv_at hl 0 rfl) ?_
  refine h_get hx hb hown E hM (ht_m (List.mem_of_getElem? (i := 0) rfl)) gC_Jx4a65c 1 (by decide) (v := .ref (ad 461)) rfl kw_525 dJx4a65c_add_9ea2d_13 ?_
  refine lv_aload_n hx hb dJx4a65c_add_9ea2d_16 rfl (lv_at hl 0 rfl) ?_
  refine h_get hx hb hown E hM (ht_m (List.mem_of_getElem? (i := 0) rfl)) gC_Jx4a65c 2 (by decide) (v := .int (nI 0)) rfl kw_528 dJx4a65c_add_9ea2d_17 ?_
  refine h_callV (As := [.ref v, .ref (ad 461), .int (nI 0)]) (rest := []) hx hb (hml.trans hl.1.symm) hown E hM hS xy_Jx4a65c_add_72be8 kw_823 (c_addp0O hv9) (ht_m (List.mem_of_getElem? (i := 0) rfl)) gC_Jx4a65c.1 rfl rfl (Nat.le_of_ble_eq_true rfl) ⟨(Nat.le_of_ble_eq_true rfl), (Nat.le_of_ble_eq_true rfl)⟩ ⟨(Nat.le_of_ble_eq_true rfl), (Nat.le_of_ble_eq_true rfl)⟩ dJx4a65c_add_9ea2d_20 (fun rv H locs hZ hS => ?_)
  obtain ⟨ar9, rfl, hM⟩ := hZ
  replace hM : hW D cy ad b μ P [(al, .inr (13, [.int (mc + (1 : Int32)), .ref ar9, .int (nI 1)])), (ar9, .inl (cy 4, 10, .inr (.inr (.inr (.inr (va_up (fun _ => none) 0 (some v)))))))] H := hM
  refine lv_iconst (v := (1 : Int32)) hx hb dJx4a65c_add_9ea2d_23 (by decide) ?_
  exact h_zret hx hb hr hlocks (Nat.le_of_ble_eq_true rfl) (Nat.le_of_ble_eq_true rfl) rfl ⟨_, rfl, hM⟩ hS dJx4a65c_add_9ea2d_24
set_option maxHeartbeats 4000000 in
set_option maxRecDepth 100000 in
theorem c_addpO {l : Launch} {D : va_G} {cy : Nat → ClassId} {ad : Nat → Nat} {b : Nat} {μ : gM} {P : va_W} {al ar n N v : Nat} {mc : Int32} {g : Nat → Option Nat} {vs9 : List Value} (hv9 : (v, .inr (13, vs9)) ∈ P) (hnN : n < N) (hN2 : N < 2 ^ 31) : Met l yJx4a65c_add_72be8 [.code yJx4a65c_add_72be8 cJx4a65c_add_72be8 4 none] ({ frames := 0, cells := 0, slots := 0, locals := 0 } : Room) (va_Pc [.ref al, .ref v, .ref ar, .int (nI n)] (hB l D cy ad b μ P [(al, .inr (13, [.int mc, .ref ar, .int (nI n)])), (ar, .inl (cy 4, N, .inr (.inr (.inr (.inr g)))))])) (hQ b (fun rv H => rv = none ∧ hW D cy ad b μ P [(al, .inr (13, [.int mc, .ref ar, .int (nI (n + 1))])), (ar, .inl (cy 4, N, .inr (.inr (.inr (.inr (va_up g n (some v)))))))] H)) 0 0 (hA b) := by
  refine va_MetF (cc := cJx4a65c_add_72be8) (maxL := 4) (ret := none) (by decide +kernel) rfl ?_
  intro p e s m args below meth c s₁ B hml0 hv
  obtain ⟨rfl, E, hM⟩ := hv
  obtain ⟨hx, hb, hml, hown, hlocks, hr⟩ := (gF_of B hml0 : gF p s m meth c cJx4a65c_add_72be8 RJx4a65c 4 none)
  have hS : va_S (hA b) s.heap s.heap [] := va_S.rf
  have hl := lv_entry ([.ref al, .ref v, .ref ar, .int (nI n)]) (n := 4) (Nat.le_of_ble_eq_true rfl)
  rw [lg_entry_eq]
  generalize (lg_sl ([.ref al, .ref v, .ref ar, .int (nI n)]) ++ List.replicate (4 - (lg_sl ([.ref al, .ref v, .ref ar, .int (nI n)])).length) Slot.unset).toArray = ls at hl ⊢
  have hl : lv_has ls 4 [(0, .ref al), (1, .ref v), (2, .ref ar), (3, .int (nI n))] := hl
  refine lv_iload_n hx hb dJx4a65c_add_72be8_0 rfl (lv_at hl 3 rfl) ?_
  refine lv_aload_n hx hb dJx4a65c_add_72be8_1 rfl (lv_at hl 2 rfl) ?_
  refine h_alen hx hb E hM 4 (ty := .object "java/lang/Object") (ht_m (List.mem_of_getElem? (i := 1) rfl)) rfl (v := nI N) rfl dJx4a65c_add_72be8_2 ?_
  refine lv_icmp_ne (tgt := 11) hx hb dJx4a65c_add_72be8_3 (by decide) (fun c1 => ?_) (fun c1 => ?_)
  · refine lv_aload_n hx hb dJx4a65c_add_72be8_11 rfl (lv_at hl 2 rfl) ?_
    refine lv_iload_n hx hb dJx4a65c_add_72be8_12 rfl (lv_at hl 3 rfl) ?_
    refine lv_aload_n hx hb dJx4a65c_add_72be8_13 rfl (lv_at hl 1 rfl) ?_
    refine h_astO (j := 1) hx hb E hM hS rfl (hp_m hv9) gC_Jx4a65c (List.mem_of_getElem? (i := 1) rfl) (i := nI n) (x_in hnN hN2) dJx4a65c_add_72be8_14 (fun H locs hM hS => ?_)
    rw [nI_clamp (by omega)] at hM
    replace hM : hW D cy ad b μ P [(al, .inr (13, [.int mc, .ref ar, .int (nI n)])), (ar, .inl (cy 4, N, .inr (.inr (.inr (.inr (va_up g n (some v)))))))] H := hM
    refine lv_aload_n hx hb dJx4a65c_add_72be8_15 rfl (lv_at hl 0 rfl) ?_
    refine lv_iload_n hx hb dJx4a65c_add_72be8_16 rfl (lv_at hl 3 rfl) ?_
    refine lv_iconst (v := (1 : Int32)) hx hb dJx4a65c_add_72be8_17 (by decide) ?_
    refine lv_iadd hx hb dJx4a65c_add_72be8_18 ?_
    rw [show (nI n + (1 : Int32)) = nI (n + 1) from (nI_1 n)]
    refine h_put (j := 0) hx hb hown E hM hS rfl gC_Jx4a65c 2 (by decide) rfl (tyJx4a65c_ok 2 (by decide)) rfl rfl kw_528 (Nat.le_of_ble_eq_true rfl) dJx4a65c_add_72be8_19 (fun H locs hM hS => ?_)
    replace hM : hW D cy ad b μ P [(al, .inr (13, [.int mc, .ref ar, .int (nI (n + 1))])), (ar, .inl (cy 4, N, .inr (.inr (.inr (.inr (va_up g n (some v)))))))] H := hM
    exact h_vret hx hb hr hlocks (Nat.le_of_ble_eq_true rfl) (Nat.le_of_ble_eq_true rfl) ⟨rfl, hM⟩ hS dJx4a65c_add_72be8_22
  · exact absurd c1 (fun z => by have := (nI_eq (by omega) (by omega)).mp z; omega)
set_option maxHeartbeats 4000000 in
set_option maxRecDepth 100000 in
theorem c_addO {l : Launch} {D : va_G} {cy : Nat → ClassId} {ad : Nat → Nat} {b : Nat} {μ : gM} {P : va_W} {al ar n N v : Nat} {mc : Int32} {g : Nat → Option Nat} {vs9 : List Value} (hv9 : (v, .inr (13, vs9)) ∈ P) (hnN : n < N) (hN2 : N < 2 ^ 31) : Met l yJx4a65c_add_9ea2d [.code yJx4a65c_add_9ea2d cJx4a65c_add_9ea2d 2 (some .boolean)] ({ frames := 1, cells := 0, slots := 0, locals := 23 } : Room) (va_Pc [.ref al, .ref v] (hB l D cy ad b μ P [(al, .inr (13, [.int mc, .ref ar, .int (nI n)])), (ar, .inl (cy 4, N, .inr (.inr (.inr (.inr g)))))])) (hQ b (fun rv H => rv = some (.int 1) ∧ hW D cy ad b μ P [(al, .inr (13, [.int (mc + (1 : Int32)), .ref ar, .int (nI (n + 1))])), (ar, .inl (cy 4, N, .inr (.inr (.inr (.inr (va_up g n (some v)))))))] H)) 0 0 (hA b) := by
  refine va_MetF (cc := cJx4a65c_add_9ea2d) (maxL := 2) (ret := (some .boolean)) (by decide +kernel) rfl ?_
  intro p e s m args below meth c s₁ B hml0 hv
  obtain ⟨rfl, E, hM⟩ := hv
  obtain ⟨hx, hb, hml, hown, hlocks, hr⟩ := (gF_of B hml0 : gF p s m meth c cJx4a65c_add_9ea2d RJx4a65c 2 (some .boolean))
  have hS : va_S (hA b) s.heap s.heap [] := va_S.rf
  have hl := lv_entry ([.ref al, .ref v]) (n := 2) (Nat.le_of_ble_eq_true rfl)
  rw [lg_entry_eq]
  generalize (lg_sl ([.ref al, .ref v]) ++ List.replicate (2 - (lg_sl ([.ref al, .ref v])).length) Slot.unset).toArray = ls at hl ⊢
  have hl : lv_has ls 2 [(0, .ref al), (1, .ref v)] := hl
  refine lv_aload_n hx hb dJx4a65c_add_9ea2d_0 rfl (lv_at hl 0 rfl) ?_
  refine lv_dup hx hb dJx4a65c_add_9ea2d_1 rfl ?_
  refine h_getU hx hb hown E hM (ht_m (List.mem_of_getElem? (i := 0) rfl)) gC_Jx4a65c 0 (by decide) (v := .int mc) rfl kw_532 kz_531 dJx4a65c_add_9ea2d_2 ?_
  refine lv_iconst (v := (1 : Int32)) hx hb dJx4a65c_add_9ea2d_5 (by decide) ?_
  refine lv_iadd hx hb dJx4a65c_add_9ea2d_6 ?_
  refine h_putU (j := 0) hx hb hown E hM hS rfl gC_Jx4a65c 0 (by decide) rfl (tyJx4a65c_ok 0 (by decide)) rfl rfl kw_532 kz_531 (Nat.le_of_ble_eq_true rfl) dJx4a65c_add_9ea2d_7 (fun H locs hM hS => ?_)
  replace hM : hW D cy ad b μ P [(al, .inr (13, [.int (mc + (1 : Int32)), .ref ar, .int (nI n)])), (ar, .inl (cy 4, N, .inr (.inr (.inr (.inr g)))))] H := hM
  refine lv_aload_n hx hb dJx4a65c_add_9ea2d_10 rfl (lv_at hl 0 rfl) ?_
  refine lv_aload_n hx hb dJx4a65c_add_9ea2d_11 rfl (lv_at hl 1 rfl) ?_
  refine lv_aload_n hx hb dJx4a65c_add_9ea2d_12 rfl (lv_at hl 0 rfl) ?_
  refine h_get hx hb hown E hM (ht_m (List.mem_of_getElem? (i := 0) rfl)) gC_Jx4a65c 1 (by decide) (v := .ref ar) rfl kw_525 dJx4a65c_add_9ea2d_13 ?_
  refine lv_aload_n hx hb dJx4a65c_add_9ea2d_16 rfl (lv_at hl 0 rfl) ?_
  refine h_get hx hb hown E hM (ht_m (List.mem_of_getElem? (i := 0) rfl)) gC_Jx4a65c 2 (by decide) (v := .int (nI n)) rfl kw_528 dJx4a65c_add_9ea2d_17 ?_
  refine h_callV (As := [.ref v, .ref ar, .int (nI n)]) (rest := []) hx hb (hml.trans hl.1.symm) hown E hM hS xy_Jx4a65c_add_72be8 kw_823 (c_addpO hv9 hnN hN2) (ht_m (List.mem_of_getElem? (i := 0) rfl)) gC_Jx4a65c.1 rfl rfl (Nat.le_of_ble_eq_true rfl) ⟨(Nat.le_of_ble_eq_true rfl), (Nat.le_of_ble_eq_true rfl)⟩ ⟨(Nat.le_of_ble_eq_true rfl), (Nat.le_of_ble_eq_true rfl)⟩ dJx4a65c_add_9ea2d_20 (fun rv H locs hZ hS => ?_)
  obtain ⟨rfl, hM⟩ := hZ
  refine lv_iconst (v := (1 : Int32)) hx hb dJx4a65c_add_9ea2d_23 (by decide) ?_
  exact h_zret hx hb hr hlocks (Nat.le_of_ble_eq_true rfl) (Nat.le_of_ble_eq_true rfl) rfl ⟨rfl, hM⟩ hS dJx4a65c_add_9ea2d_24
theorem dJ7_copyOf_6403c_0 : decode cJ7_copyOf_6403c 0 = .ok (.aload_n 2, 1) := by decide +kernel
theorem dJ7_copyOf_6403c_1 : decode cJ7_copyOf_6403c 1 = .ok (.ldc 110, 2) := by decide +kernel
theorem dJ7_copyOf_6403c_3 : decode cJ7_copyOf_6403c 3 = .ok (.if_acmp .ne 10, 3) := by decide +kernel
theorem dJ7_copyOf_6403c_6 : decode cJ7_copyOf_6403c 6 = .ok (.iload_n 1, 1) := by decide +kernel
theorem dJ7_copyOf_6403c_7 : decode cJ7_copyOf_6403c 7 = .ok (.anewarray 2, 3) := by decide +kernel
theorem dJ7_copyOf_6403c_10 : decode cJ7_copyOf_6403c 10 = .ok (.goto 14, 3) := by decide +kernel
theorem dJ7_copyOf_6403c_13 : decode cJ7_copyOf_6403c 13 = .ok (.aload_n 2, 1) := by decide +kernel
theorem dJ7_copyOf_6403c_14 : decode cJ7_copyOf_6403c 14 = .ok (.invokevirtual 90, 3) := by decide +kernel
theorem dJ7_copyOf_6403c_17 : decode cJ7_copyOf_6403c 17 = .ok (.iload_n 1, 1) := by decide +kernel
theorem dJ7_copyOf_6403c_18 : decode cJ7_copyOf_6403c 18 = .ok (.invokestatic 95, 3) := by decide +kernel
theorem dJ7_copyOf_6403c_21 : decode cJ7_copyOf_6403c 21 = .ok (.checkcast 110, 3) := by decide +kernel
theorem dJ7_copyOf_6403c_24 : decode cJ7_copyOf_6403c 24 = .ok (.astore_n 3, 1) := by decide +kernel
theorem dJ7_copyOf_6403c_25 : decode cJ7_copyOf_6403c 25 = .ok (.aload_n 0, 1) := by decide +kernel
theorem dJ7_copyOf_6403c_26 : decode cJ7_copyOf_6403c 26 = .ok (.iconst 0, 1) := by decide +kernel
theorem dJ7_copyOf_6403c_27 : decode cJ7_copyOf_6403c 27 = .ok (.aload_n 3, 1) := by decide +kernel
theorem dJ7_copyOf_6403c_28 : decode cJ7_copyOf_6403c 28 = .ok (.iconst 0, 1) := by decide +kernel
theorem dJ7_copyOf_6403c_29 : decode cJ7_copyOf_6403c 29 = .ok (.aload_n 0, 1) := by decide +kernel
theorem dJ7_copyOf_6403c_30 : decode cJ7_copyOf_6403c 30 = .ok (.arraylength, 1) := by decide +kernel
theorem dJ7_copyOf_6403c_31 : decode cJ7_copyOf_6403c 31 = .ok (.iload_n 1, 1) := by decide +kernel
theorem dJ7_copyOf_6403c_32 : decode cJ7_copyOf_6403c 32 = .ok (.invokestatic 304, 3) := by decide +kernel
theorem dJ7_copyOf_6403c_35 : decode cJ7_copyOf_6403c 35 = .ok (.invokestatic 150, 3) := by decide +kernel
theorem dJ7_copyOf_6403c_38 : decode cJ7_copyOf_6403c 38 = .ok (.aload_n 3, 1) := by decide +kernel
theorem dJ7_copyOf_6403c_39 : decode cJ7_copyOf_6403c 39 = .ok (.areturn, 1) := by decide +kernel
set_option maxHeartbeats 4000000 in
set_option maxRecDepth 100000 in
theorem c_cpq1 {l : Launch} {D : va_G} {cy : Nat → ClassId} {ad : Nat → Nat} {b : Nat} {μ : gM} {P : va_W} {ar : Nat}  {g : Nat → Option Nat}   (hel : ∀ i, i < 10 → ∀ y, g i = some y → ∃ vs, (y, .inr (13, vs)) ∈ P) : Met l yJ7_copyOf_6403c [.code yJ7_copyOf_6403c cJ7_copyOf_6403c 4 (some (.array (.object "java/lang/Object")))] ({ frames := 1, cells := 1, slots := 15, locals := 40 } : Room) (va_Pc [.ref ar, .int (nI 15), .ref (ad 464)] (hB l D cy ad b μ P [(ar, .inl (cy 4, 10, .inr (.inr (.inr (.inr g)))))])) (hQ b (fun rv H => ∃ ar9, rv = some (.ref ar9) ∧ hW D cy ad b μ P [(ar, .inl (cy 4, 10, .inr (.inr (.inr (.inr g))))), (ar9, .inl (cy 4, 15, .inr (.inr (.inr (.inr (va_cpy g (fun _ => none) 0 0 10))))))] H)) 1 15 (hA b) := by
  refine va_MetF (cc := cJ7_copyOf_6403c) (maxL := 4) (ret := (some (.array (.object "java/lang/Object")))) (by decide +kernel) rfl ?_
  intro p e s m args below meth c s₁ B hml0 hv
  obtain ⟨rfl, E, hM⟩ := hv
  obtain ⟨hx, hb, hml, hown, hlocks, hr⟩ := (gF_of B hml0 : gF p s m meth c cJ7_copyOf_6403c RJ7 4 (some (.array (.object "java/lang/Object"))))
  have hS : va_S (hA b) s.heap s.heap [] := va_S.rf
  have hl := lv_entry ([.ref ar, .int (nI 15), .ref (ad 464)]) (n := 4) (Nat.le_of_ble_eq_true rfl)
  rw [lg_entry_eq]
  generalize (lg_sl ([.ref ar, .int (nI 15), .ref (ad 464)]) ++ List.replicate (4 - (lg_sl ([.ref ar, .int (nI 15), .ref (ad 464)])).length) Slot.unset).toArray = ls at hl ⊢
  have hl : lv_has ls 4 [(0, .ref ar), (1, .int (nI 15)), (2, .ref (ad 464))] := hl
  refine lv_aload_n hx hb dJ7_copyOf_6403c_0 rfl (lv_at hl 2 rfl) ?_
  refine va_ldcM hx hb hown (E.kw kw_862) E.x.2.2.1 dJ7_copyOf_6403c_1 ?_
  refine lv_acmp_ne (rx := some (ad 464)) (ry := some (ad 464)) (tgt := 13) hx hb dJ7_copyOf_6403c_3 (by decide) (fun c1 => ?_) (fun c1 => ?_)
  · exact absurd rfl c1
  · refine lv_iload_n hx hb dJ7_copyOf_6403c_6 rfl (lv_at hl 1 rfl) ?_
    refine h_newq (N := 15) hx hb hown E hM hS rfl (by decide) kw_864 (Nat.le_of_ble_eq_true rfl) (Nat.le_of_ble_eq_true rfl) dJ7_copyOf_6403c_7 (fun a2 H hM hS => ?_)
    replace hM : hW D cy ad b μ P [(ar, .inl (cy 4, 10, .inr (.inr (.inr (.inr g))))), (a2, .inl (cy 4, 15, .inr (.inr (.inr (.inr (fun _ => none))))))] H := hM
    refine lv_goto (tgt := 24) hx hb dJ7_copyOf_6403c_10 (by decide) ?_
    refine lv_astore_n (lv' := [(3, .ref a2), (0, .ref ar), (1, .int (nI 15)), (2, .ref (ad 464))]) hx hb dJ7_copyOf_6403c_24 rfl hl (by decide) rfl (fun ls hl => ?_)
    refine lv_aload_n hx hb dJ7_copyOf_6403c_25 rfl (lv_at hl 1 rfl) ?_
    refine lv_iconst (v := (0 : Int32)) hx hb dJ7_copyOf_6403c_26 (by decide) ?_
    refine lv_aload_n hx hb dJ7_copyOf_6403c_27 rfl (lv_at hl 0 rfl) ?_
    refine lv_iconst (v := (0 : Int32)) hx hb dJ7_copyOf_6403c_28 (by decide) ?_
    refine lv_aload_n hx hb dJ7_copyOf_6403c_29 rfl (lv_at hl 1 rfl) ?_
    refine h_alen hx hb E hM 4 (ty := .object "java/lang/Object") (ht_m (List.mem_of_getElem? (i := 0) rfl)) rfl (v := nI 10) rfl dJ7_copyOf_6403c_30 ?_
    refine lv_iload_n hx hb dJ7_copyOf_6403c_31 rfl (lv_at hl 2 rfl) ?_
    refine va_mmin hx hb (hml.trans hl.1.symm) hown (E.kw kw_621) (E.kw kw_622) (E.kw kw_67) (E.kw kw_623) (Nat.le_of_ble_eq_true rfl) (Nat.le_of_ble_eq_true rfl) (Nat.le_of_ble_eq_true rfl) (Nat.le_of_ble_eq_true rfl) dJ7_copyOf_6403c_32 ?_
    rw [show (if nI 15 < nI 10 then nI 15 else nI 10) = nI 10 from (by decide)]
    refine h_cpyM (j := 1) hx hb (hml.trans hl.1.symm) hown E hM hS ⟨kw_624, kw_97, kw_96, kw_69⟩ (ht_m (List.mem_of_getElem? (i := 0) rfl)) rfl (n := 10) (by omega) (by omega) (by omega) (by omega) (fun i hi y hy => (hel i hi y hy).imp (fun _ hq => hp_m hq)) (Nat.le_of_ble_eq_true rfl) (Nat.le_of_ble_eq_true rfl) dJ7_copyOf_6403c_35 (fun H locs hM hS => ?_)
    replace hM : hW D cy ad b μ P [(ar, .inl (cy 4, 10, .inr (.inr (.inr (.inr g))))), (a2, .inl (cy 4, 15, .inr (.inr (.inr (.inr (va_cpy g (fun _ => none) 0 0 10))))))] H := hM
    refine lv_aload_n hx hb dJ7_copyOf_6403c_38 rfl (lv_at hl 0 rfl) ?_
    exact h_aret hx hb hr (Or.inr ⟨_, rfl⟩) hlocks (Nat.le_of_ble_eq_true rfl) (Nat.le_of_ble_eq_true rfl) ⟨_, rfl, hM⟩ hS dJ7_copyOf_6403c_39
theorem xs_J7_copyOf_6403c : gYS yJ7_copyOf_6403c cJ7_copyOf_6403c 4 (some (.array (.object "java/lang/Object"))) 3 := ⟨kw_861, kw_68, kw_860, ⟨by decide +kernel, by decide +kernel⟩, by decide +kernel⟩
theorem dJ7_copyOf_1904c_0 : decode cJ7_copyOf_1904c 0 = .ok (.aload_n 0, 1) := by decide +kernel
theorem dJ7_copyOf_1904c_1 : decode cJ7_copyOf_1904c 1 = .ok (.iload_n 1, 1) := by decide +kernel
theorem dJ7_copyOf_1904c_2 : decode cJ7_copyOf_1904c 2 = .ok (.aload_n 0, 1) := by decide +kernel
theorem dJ7_copyOf_1904c_3 : decode cJ7_copyOf_1904c 3 = .ok (.invokevirtual 86, 3) := by decide +kernel
theorem dJ7_copyOf_1904c_6 : decode cJ7_copyOf_1904c 6 = .ok (.invokestatic 300, 3) := by decide +kernel
theorem dJ7_copyOf_1904c_9 : decode cJ7_copyOf_1904c 9 = .ok (.areturn, 1) := by decide +kernel
set_option maxHeartbeats 4000000 in
set_option maxRecDepth 100000 in
theorem c_cpq {l : Launch} {D : va_G} {cy : Nat → ClassId} {ad : Nat → Nat} {b : Nat} {μ : gM} {P : va_W} {ar : Nat}  {g : Nat → Option Nat}   (hel : ∀ i, i < 10 → ∀ y, g i = some y → ∃ vs, (y, .inr (13, vs)) ∈ P) : Met l yJ7_copyOf_1904c [.code yJ7_copyOf_1904c cJ7_copyOf_1904c 2 (some (.array (.object "java/lang/Object")))] ({ frames := 2, cells := 1, slots := 15, locals := 63 } : Room) (va_Pc [.ref ar, .int (nI 15)] (hB l D cy ad b μ P [(ar, .inl (cy 4, 10, .inr (.inr (.inr (.inr g)))))])) (hQ b (fun rv H => ∃ ar9, rv = some (.ref ar9) ∧ hW D cy ad b μ P [(ar, .inl (cy 4, 10, .inr (.inr (.inr (.inr g))))), (ar9, .inl (cy 4, 15, .inr (.inr (.inr (.inr (va_cpy g (fun _ => none) 0 0 10))))))] H)) 1 15 (hA b) := by
  refine va_MetF (cc := cJ7_copyOf_1904c) (maxL := 2) (ret := (some (.array (.object "java/lang/Object")))) (by decide +kernel) rfl ?_
  intro p e s m args below meth c s₁ B hml0 hv
  obtain ⟨rfl, E, hM⟩ := hv
  obtain ⟨hx, hb, hml, hown, hlocks, hr⟩ := (gF_of B hml0 : gF p s m meth c cJ7_copyOf_1904c RJ7 2 (some (.array (.object "java/lang/Object"))))
  have hS : va_S (hA b) s.heap s.heap [] := va_S.rf
  have hl := lv_entry ([.ref ar, .int (nI 15)]) (n := 2) (Nat.le_of_ble_eq_true rfl)
  rw [lg_entry_eq]
  generalize (lg_sl ([.ref ar, .int (nI 15)]) ++ List.replicate (2 - (lg_sl ([.ref ar, .int (nI 15)])).length) Slot.unset).toArray = ls at hl ⊢
  have hl : lv_has ls 2 [(0, .ref ar), (1, .int (nI 15))] := hl
  refine lv_aload_n hx hb dJ7_copyOf_1904c_0 rfl (lv_at hl 0 rfl) ?_
  refine lv_iload_n hx hb dJ7_copyOf_1904c_1 rfl (lv_at hl 1 rfl) ?_
  refine lv_aload_n hx hb dJ7_copyOf_1904c_2 rfl (lv_at hl 0 rfl) ?_
  refine h_getC hx hb (hml.trans hl.1.symm) hown E hM (ht_m (List.mem_of_getElem? (i := 0) rfl)) kw_839 (Nat.le_of_ble_eq_true rfl) (Nat.le_of_ble_eq_true rfl) dJ7_copyOf_1904c_3 ?_
  refine h_callS (As := [.ref ar, .int (nI 15), .ref (ad 464)]) (rest := []) hx hb (hml.trans hl.1.symm) hown E hM hS xs_J7_copyOf_6403c kw_859 (c_cpq1 hel) rfl rfl (Nat.le_of_ble_eq_true rfl) ⟨(Nat.le_of_ble_eq_true rfl), (Nat.le_of_ble_eq_true rfl)⟩ ⟨(Nat.le_of_ble_eq_true rfl), (Nat.le_of_ble_eq_true rfl)⟩ dJ7_copyOf_1904c_6 (fun rv H locs hZ hS => ?_)
  obtain ⟨ar9, rfl, hM⟩ := hZ
  replace hM : hW D cy ad b μ P [(ar, .inl (cy 4, 10, .inr (.inr (.inr (.inr g))))), (ar9, .inl (cy 4, 15, .inr (.inr (.inr (.inr (va_cpy g (fun _ => none) 0 0 10))))))] H := hM
  exact h_aret hx hb hr (Or.inr ⟨_, rfl⟩) hlocks (Nat.le_of_ble_eq_true rfl) (Nat.le_of_ble_eq_true rfl) ⟨_, rfl, hM⟩ hS dJ7_copyOf_1904c_9
theorem xs_J7_copyOf_1904c : gYS yJ7_copyOf_1904c cJ7_copyOf_1904c 2 (some (.array (.object "java/lang/Object"))) 2 := ⟨kw_838, kw_68, kw_837, ⟨by decide +kernel, by decide +kernel⟩, by decide +kernel⟩
set_option maxHeartbeats 4000000 in
set_option maxRecDepth 100000 in
theorem c_gr10 {l : Launch} {D : va_G} {cy : Nat → ClassId} {ad : Nat → Nat} {b : Nat} {μ : gM} {P : va_W} {al ar : Nat} {mc : Int32} {g : Nat → Option Nat}   (hel : ∀ i, i < 10 → ∀ y, g i = some y → ∃ vs, (y, .inr (13, vs)) ∈ P) : Met l yJx4a65c_grow_92f84 [.code yJx4a65c_grow_92f84 cJx4a65c_grow_92f84 4 (some (.array (.object "java/lang/Object")))] ({ frames := 3, cells := 1, slots := 15, locals := 84 } : Room) (va_Pc [.ref al, .int (nI 11)] (hB l D cy ad b μ P [(al, .inr (13, [.int mc, .ref ar, .int (nI 10)])), (ar, .inl (cy 4, 10, .inr (.inr (.inr (.inr g)))))])) (hQ b (fun rv H => ∃ ar9, rv = some (.ref ar9) ∧ hW D cy ad b μ P [(al, .inr (13, [.int mc, .ref ar9, .int (nI 10)])), (ar, .inl (cy 4, 10, .inr (.inr (.inr (.inr g))))), (ar9, .inl (cy 4, 15, .inr (.inr (.inr (.inr (va_cpy g (fun _ => none) 0 0 10))))))] H)) 1 15 (hA b) := by
  refine va_MetF (cc := cJx4a65c_grow_92f84) (maxL := 4) (ret := (some (.array (.object "java/lang/Object")))) (by decide +kernel) rfl ?_
  intro p e s m args below meth c s₁ B hml0 hv
  obtain ⟨rfl, E, hM⟩ := hv
  obtain ⟨hx, hb, hml, hown, hlocks, hr⟩ := (gF_of B hml0 : gF p s m meth c cJx4a65c_grow_92f84 RJx4a65c 4 (some (.array (.object "java/lang/Object"))))
  have hS : va_S (hA b) s.heap s.heap [] := va_S.rf
  have hl := lv_entry ([.ref al, .int (nI 11)]) (n := 4) (Nat.le_of_ble_eq_true rfl)
  rw [lg_entry_eq]
  generalize (lg_sl ([.ref al, .int (nI 11)]) ++ List.replicate (4 - (lg_sl ([.ref al, .int (nI 11)])).length) Slot.unset).toArray = ls at hl ⊢
  have hl : lv_has ls 4 [(0, .ref al), (1, .int (nI 11))] := hl
  refine lv_aload_n hx hb dJx4a65c_grow_92f84_0 rfl (lv_at hl 0 rfl) ?_
  refine h_get hx hb hown E hM (ht_m (List.mem_of_getElem? (i := 0) rfl)) gC_Jx4a65c 1 (by decide) (v := .ref ar) rfl kw_525 dJx4a65c_grow_92f84_1 ?_
  refine h_alen hx hb E hM 4 (ty := .object "java/lang/Object") (ht_m (List.mem_of_getElem? (i := 1) rfl)) rfl (v := nI 10) rfl dJx4a65c_grow_92f84_4 ?_
  refine lv_istore_n (lv' := [(2, .int (nI 10)), (0, .ref al), (1, .int (nI 11))]) hx hb dJx4a65c_grow_92f84_5 rfl hl (by decide) rfl (fun ls hl => ?_)
  refine lv_iload_n hx hb dJx4a65c_grow_92f84_6 rfl (lv_at hl 0 rfl) ?_
  refine lv_if_gt (tgt := 20) hx hb dJx4a65c_grow_92f84_7 (by decide) (fun c1 => ?_) (fun c1 => ?_)
  · refine lv_iload_n hx hb dJx4a65c_grow_92f84_20 rfl (lv_at hl 0 rfl) ?_
    refine lv_iload_n hx hb dJx4a65c_grow_92f84_21 rfl (lv_at hl 2 rfl) ?_
    refine lv_iload_n hx hb dJx4a65c_grow_92f84_22 rfl (lv_at hl 0 rfl) ?_
    refine lv_isub hx hb dJx4a65c_grow_92f84_23 ?_
    rw [show (nI 11 - nI 10) = nI 1 from (by decide)]
    refine lv_iload_n hx hb dJx4a65c_grow_92f84_24 rfl (lv_at hl 0 rfl) ?_
    refine lv_iconst (v := (1 : Int32)) hx hb dJx4a65c_grow_92f84_25 (by decide) ?_
    refine lv_ishr hx hb dJx4a65c_grow_92f84_26 ?_
    rw [show (nI 10 >>> ((1 : Int32) &&& 31)) = nI 5 from (by decide)]
    replace hM := hW.right (X := [(al, .inr (13, [.int mc, .ref ar, .int (nI 10)])), (ar, .inl (cy 4, 10, .inr (.inr (.inr (.inr g)))))]) (T := []) hM
    refine h_callS (As := [.int (nI 10), .int (nI 1), .int (nI 5)]) (rest := []) hx hb (hml.trans hl.1.symm) hown E hM hS xs_J8_newLength_cabcc kw_835 (c_nlen (w := 10) (g := 1) (q := 5) (by omega) (by omega) (by omega)) rfl rfl (Nat.le_of_ble_eq_true rfl) ⟨(Nat.le_of_ble_eq_true rfl), (Nat.le_of_ble_eq_true rfl)⟩ ⟨(Nat.le_of_ble_eq_true rfl), (Nat.le_of_ble_eq_true rfl)⟩ dJx4a65c_grow_92f84_27 (fun rv H locs hZ hS => ?_)
    obtain ⟨rfl, hM⟩ := hZ
    replace hM := hW.left (X := [(al, .inr (13, [.int mc, .ref ar, .int (nI 10)])), (ar, .inl (cy 4, 10, .inr (.inr (.inr (.inr g)))))]) (T := []) hM
    replace hM : hW D cy ad b μ P [(al, .inr (13, [.int mc, .ref ar, .int (nI 10)])), (ar, .inl (cy 4, 10, .inr (.inr (.inr (.inr g)))))] H := hM
    refine lv_istore_n (lv' := [(3, .int (nI 15)), (2, .int (nI 10)), (0, .ref al), (1, .int (nI 11))]) hx hb dJx4a65c_grow_92f84_30 rfl hl (by decide) rfl (fun ls hl => ?_)
    refine lv_aload_n hx hb dJx4a65c_grow_92f84_31 rfl (lv_at hl 2 rfl) ?_
    refine lv_aload_n hx hb dJx4a65c_grow_92f84_32 rfl (lv_at hl 2 rfl) ?_
    refine h_get hx hb hown E hM (ht_m (List.mem_of_getElem? (i := 0) rfl)) gC_Jx4a65c 1 (by decide) (v := .ref ar) rfl kw_525 dJx4a65c_grow_92f84_33 ?_
    refine lv_iload_n hx hb dJx4a65c_grow_92f84_36 rfl (lv_at hl 0 rfl) ?_
    replace hM := hW.right (X := [(al, .inr (13, [.int mc, .ref ar, .int (nI 10)]))]) (T := [(ar, .inl (cy 4, 10, .inr (.inr (.inr (.inr g)))))]) hM
    refine h_callS (As := [.ref ar, .int (nI 15)]) (rest := [.ref al]) hx hb (hml.trans hl.1.symm) hown E hM hS xs_J7_copyOf_1904c kw_836 (c_cpq (fun i hi y hy => (hel i hi y hy).imp (fun _ hq => List.mem_append_left _ hq))) rfl rfl (Nat.le_of_ble_eq_true rfl) ⟨(Nat.le_of_ble_eq_true rfl), (Nat.le_of_ble_eq_true rfl)⟩ ⟨(Nat.le_of_ble_eq_true rfl), (Nat.le_of_ble_eq_true rfl)⟩ dJx4a65c_grow_92f84_37 (fun rv H locs hZ hS => ?_)
    obtain ⟨ar9, rfl, hM⟩ := hZ
    replace hM := hW.left (X := [(al, .inr (13, [.int mc, .ref ar, .int (nI 10)]))]) (T := [(ar, .inl (cy 4, 10, .inr (.inr (.inr (.inr g))))), (ar9, .inl (cy 4, 15, .inr (.inr (.inr (.inr (va_cpy g (fun _ => none) 0 0 10))))))]) hM
    replace hM : hW D cy ad b μ P [(al, .inr (13, [.int mc, .ref ar, .int (nI 10)])), (ar, .inl (cy 4, 10, .inr (.inr (.inr (.inr g))))), (ar9, .inl (cy 4, 15, .inr (.inr (.inr (.inr (va_cpy g (fun _ => none) 0 0 10))))))] H := hM
    refine lv_dup_x1 hx hb dJx4a65c_grow_92f84_40 rfl rfl ?_
    refine h_put (j := 0) hx hb hown E hM hS rfl gC_Jx4a65c 1 (by decide) rfl (tyJx4a65c_ok 1 (by decide)) rfl rfl kw_525 (Nat.le_of_ble_eq_true rfl) dJx4a65c_grow_92f84_41 (fun H locs hM hS => ?_)
    replace hM : hW D cy ad b μ P [(al, .inr (13, [.int mc, .ref ar9, .int (nI 10)])), (ar, .inl (cy 4, 10, .inr (.inr (.inr (.inr g))))), (ar9, .inl (cy 4, 15, .inr (.inr (.inr (.inr (va_cpy g (fun _ => none) 0 0 10))))))] H := hM
    exact h_aret hx hb hr (Or.inr ⟨_, rfl⟩) hlocks (Nat.le_of_ble_eq_true rfl) (Nat.le_of_ble_eq_true rfl) ⟨_, rfl, hM⟩ hS dJx4a65c_grow_92f84_44
  · exact absurd (by decide) c1
set_option maxHeartbeats 4000000 in
set_option maxRecDepth 100000 in
theorem c_gr10p {l : Launch} {D : va_G} {cy : Nat → ClassId} {ad : Nat → Nat} {b : Nat} {μ : gM} {P : va_W} {al ar : Nat} {mc : Int32} {g : Nat → Option Nat}   (hel : ∀ i, i < 10 → ∀ y, g i = some y → ∃ vs, (y, .inr (13, vs)) ∈ P) : Met l yJx4a65c_grow_d5877 [.code yJx4a65c_grow_d5877 cJx4a65c_grow_d5877 1 (some (.array (.object "java/lang/Object")))] ({ frames := 4, cells := 1, slots := 15, locals := 107 } : Room) (va_Pc [.ref al] (hB l D cy ad b μ P [(al, .inr (13, [.int mc, .ref ar, .int (nI 10)])), (ar, .inl (cy 4, 10, .inr (.inr (.inr (.inr g)))))])) (hQ b (fun rv H => ∃ ar9, rv = some (.ref ar9) ∧ hW D cy ad b μ P [(al, .inr (13, [.int mc, .ref ar9, .int (nI 10)])), (ar, .inl (cy 4, 10, .inr (.inr (.inr (.inr g))))), (ar9, .inl (cy 4, 15, .inr (.inr (.inr (.inr (va_cpy g (fun _ => none) 0 0 10))))))] H)) 1 15 (hA b) := by
  refine va_MetF (cc := cJx4a65c_grow_d5877) (maxL := 1) (ret := (some (.array (.object "java/lang/Object")))) (by decide +kernel) rfl ?_
  intro p e s m args below meth c s₁ B hml0 hv
  obtain ⟨rfl, E, hM⟩ := hv
  obtain ⟨hx, hb, hml, hown, hlocks, hr⟩ := (gF_of B hml0 : gF p s m meth c cJx4a65c_grow_d5877 RJx4a65c 1 (some (.array (.object "java/lang/Object"))))
  have hS : va_S (hA b) s.heap s.heap [] := va_S.rf
  have hl := lv_entry ([.ref al]) (n := 1) (Nat.le_of_ble_eq_true rfl)
  rw [lg_entry_eq]
  generalize (lg_sl ([.ref al]) ++ List.replicate (1 - (lg_sl ([.ref al])).length) Slot.unset).toArray = ls at hl ⊢
  have hl : lv_has ls 1 [(0, .ref al)] := hl
  refine lv_aload_n hx hb dJx4a65c_grow_d5877_0 rfl (lv_at hl 0 rfl) ?_
  refine lv_aload_n hx hb dJx4a65c_grow_d5877_1 rfl (lv_at hl 0 rfl) ?_
  refine h_get hx hb hown E hM (ht_m (List.mem_of_getElem? (i := 0) rfl)) gC_Jx4a65c 2 (by decide) (v := .int (nI 10)) rfl kw_528 dJx4a65c_grow_d5877_2 ?_
  refine lv_iconst (v := (1 : Int32)) hx hb dJx4a65c_grow_d5877_5 (by decide) ?_
  refine lv_iadd hx hb dJx4a65c_grow_d5877_6 ?_
  rw [show (nI 10 + (1 : Int32)) = nI 11 from (by decide)]
  refine h_callV (As := [.int (nI 11)]) (rest := []) hx hb (hml.trans hl.1.symm) hown E hM hS xy_Jx4a65c_grow_92f84 kw_831 (c_gr10 hel) (ht_m (List.mem_of_getElem? (i := 0) rfl)) gC_Jx4a65c.1 rfl rfl (Nat.le_of_ble_eq_true rfl) ⟨(Nat.le_of_ble_eq_true rfl), (Nat.le_of_ble_eq_true rfl)⟩ ⟨(Nat.le_of_ble_eq_true rfl), (Nat.le_of_ble_eq_true rfl)⟩ dJx4a65c_grow_d5877_7 (fun rv H locs hZ hS => ?_)
  obtain ⟨ar9, rfl, hM⟩ := hZ
  replace hM : hW D cy ad b μ P [(al, .inr (13, [.int mc, .ref ar9, .int (nI 10)])), (ar, .inl (cy 4, 10, .inr (.inr (.inr (.inr g))))), (ar9, .inl (cy 4, 15, .inr (.inr (.inr (.inr (va_cpy g (fun _ => none) 0 0 10))))))] H := hM
  exact h_aret hx hb hr (Or.inr ⟨_, rfl⟩) hlocks (Nat.le_of_ble_eq_true rfl) (Nat.le_of_ble_eq_true rfl) ⟨_, rfl, hM⟩ hS dJx4a65c_grow_d5877_10
set_option maxHeartbeats 4000000 in
set_option maxRecDepth 100000 in
theorem c_addp10 {l : Launch} {D : va_G} {cy : Nat → ClassId} {ad : Nat → Nat} {b : Nat} {μ : gM} {P : va_W} {al ar v : Nat} {mc : Int32} {g : Nat → Option Nat}  {vs9 : List Value} (hv9 : (v, .inr (13, vs9)) ∈ P) (hel : ∀ i, i < 10 → ∀ y, g i = some y → ∃ vs, (y, .inr (13, vs)) ∈ P) : Met l yJx4a65c_add_72be8 [.code yJx4a65c_add_72be8 cJx4a65c_add_72be8 4 none] ({ frames := 5, cells := 1, slots := 15, locals := 127 } : Room) (va_Pc [.ref al, .ref v, .ref ar, .int (nI 10)] (hB l D cy ad b μ P [(al, .inr (13, [.int mc, .ref ar, .int (nI 10)])), (ar, .inl (cy 4, 10, .inr (.inr (.inr (.inr g)))))])) (hQ b (fun rv H => ∃ ar9, rv = none ∧ hW D cy ad b μ P [(al, .inr (13, [.int mc, .ref ar9, .int (nI 11)])), (ar9, .inl (cy 4, 15, .inr (.inr (.inr (.inr (va_up (va_cpy g (fun _ => none) 0 0 10) 10 (some v)))))))] H)) 1 15 (hA b) := by
  refine va_MetF (cc := cJx4a65c_add_72be8) (maxL := 4) (ret := none) (by decide +kernel) rfl ?_
  intro p e s m args below meth c s₁ B hml0 hv
  obtain ⟨rfl, E, hM⟩ := hv
  obtain ⟨hx, hb, hml, hown, hlocks, hr⟩ := (gF_of B hml0 : gF p s m meth c cJx4a65c_add_72be8 RJx4a65c 4 none)
  have hS : va_S (hA b) s.heap s.heap [] := va_S.rf
  have hl := lv_entry ([.ref al, .ref v, .ref ar, .int (nI 10)]) (n := 4) (Nat.le_of_ble_eq_true rfl)
  rw [lg_entry_eq]
  generalize (lg_sl ([.ref al, .ref v, .ref ar, .int (nI 10)]) ++ List.replicate (4 - (lg_sl ([.ref al, .ref v, .ref ar, .int (nI 10)])).length) Slot.unset).toArray = ls at hl ⊢
  have hl : lv_has ls 4 [(0, .ref al), (1, .ref v), (2, .ref ar), (3, .int (nI 10))] := hl
  refine lv_iload_n hx hb dJx4a65c_add_72be8_0 rfl (lv_at hl 3 rfl) ?_
  refine lv_aload_n hx hb dJx4a65c_add_72be8_1 rfl (lv_at hl 2 rfl) ?_
  refine h_alen hx hb E hM 4 (ty := .object "java/lang/Object") (ht_m (List.mem_of_getElem? (i := 1) rfl)) rfl (v := nI 10) rfl dJx4a65c_add_72be8_2 ?_
  refine lv_icmp_ne (tgt := 11) hx hb dJx4a65c_add_72be8_3 (by decide) (fun c1 => ?_) (fun c1 => ?_)
  · exact absurd rfl c1
  · refine lv_aload_n hx hb dJx4a65c_add_72be8_6 rfl (lv_at hl 0 rfl) ?_
    refine h_callV (As := []) (rest := []) hx hb (hml.trans hl.1.symm) hown E hM hS xy_Jx4a65c_grow_d5877 kw_827 (c_gr10p hel) (ht_m (List.mem_of_getElem? (i := 0) rfl)) gC_Jx4a65c.1 rfl rfl (Nat.le_of_ble_eq_true rfl) ⟨(Nat.le_of_ble_eq_true rfl), (Nat.le_of_ble_eq_true rfl)⟩ ⟨(Nat.le_of_ble_eq_true rfl), (Nat.le_of_ble_eq_true rfl)⟩ dJx4a65c_add_72be8_7 (fun rv H locs hZ hS => ?_)
    obtain ⟨ar9, rfl, hM⟩ := hZ
    replace hM : hW D cy ad b μ P [(al, .inr (13, [.int mc, .ref ar9, .int (nI 10)])), (ar, .inl (cy 4, 10, .inr (.inr (.inr (.inr g))))), (ar9, .inl (cy 4, 15, .inr (.inr (.inr (.inr (va_cpy g (fun _ => none) 0 0 10))))))] H := hM
    refine lv_astore_n (lv' := [(2, .ref ar9), (0, .ref al), (1, .ref v), (3, .int (nI 10))]) hx hb dJx4a65c_add_72be8_10 rfl hl (by decide) rfl (fun ls hl => ?_)
    refine lv_aload_n hx hb dJx4a65c_add_72be8_11 rfl (lv_at hl 0 rfl) ?_
    refine lv_iload_n hx hb dJx4a65c_add_72be8_12 rfl (lv_at hl 3 rfl) ?_
    refine lv_aload_n hx hb dJx4a65c_add_72be8_13 rfl (lv_at hl 2 rfl) ?_
    refine h_astO (j := 2) hx hb E hM hS rfl (hp_m hv9) gC_Jx4a65c (List.mem_of_getElem? (i := 1) rfl) (i := nI 10) (x_in (N := 15) (by omega) (by omega)) dJx4a65c_add_72be8_14 (fun H locs hM hS => ?_)
    rw [nI_clamp (by omega)] at hM
    replace hM : hW D cy ad b μ P [(al, .inr (13, [.int mc, .ref ar9, .int (nI 10)])), (ar, .inl (cy 4, 10, .inr (.inr (.inr (.inr g))))), (ar9, .inl (cy 4, 15, .inr (.inr (.inr (.inr (va_up (va_cpy g (fun _ => none) 0 0 10) 10 (some v)))))))] H := hM
    refine lv_aload_n hx hb dJx4a65c_add_72be8_15 rfl (lv_at hl 1 rfl) ?_
    refine lv_iload_n hx hb dJx4a65c_add_72be8_16 rfl (lv_at hl 3 rfl) ?_
    refine lv_iconst (v := (1 : Int32)) hx hb dJx4a65c_add_72be8_17 (by decide) ?_
    refine lv_iadd hx hb dJx4a65c_add_72be8_18 ?_
    rw [show (nI 10 + (1 : Int32)) = nI 11 from (by decide)]
    refine h_put (j := 0) hx hb hown E hM hS rfl gC_Jx4a65c 2 (by decide) rfl (tyJx4a65c_ok 2 (by decide)) rfl rfl kw_528 (Nat.le_of_ble_eq_true rfl) dJx4a65c_add_72be8_19 (fun H locs hM hS => ?_)
    replace hM : hW D cy ad b μ P [(al, .inr (13, [.int mc, .ref ar9, .int (nI 11)])), (ar, .inl (cy 4, 10, .inr (.inr (.inr (.inr g))))), (ar9, .inl (cy 4, 15, .inr (.inr (.inr (.inr (va_up (va_cpy g (fun _ => none) 0 0 10) 10 (some v)))))))] H := hM
    exact h_vret hx hb hr hlocks (Nat.le_of_ble_eq_true rfl) (Nat.le_of_ble_eq_true rfl) ⟨_, rfl, hW.drop1 (A := [_]) (B := [_]) hM⟩ hS dJx4a65c_add_72be8_22
set_option maxHeartbeats 4000000 in
set_option maxRecDepth 100000 in
theorem c_add10 {l : Launch} {D : va_G} {cy : Nat → ClassId} {ad : Nat → Nat} {b : Nat} {μ : gM} {P : va_W} {al ar v : Nat} {mc : Int32} {g : Nat → Option Nat}  {vs9 : List Value} (hv9 : (v, .inr (13, vs9)) ∈ P) (hel : ∀ i, i < 10 → ∀ y, g i = some y → ∃ vs, (y, .inr (13, vs)) ∈ P) : Met l yJx4a65c_add_9ea2d [.code yJx4a65c_add_9ea2d cJx4a65c_add_9ea2d 2 (some .boolean)] ({ frames := 6, cells := 1, slots := 15, locals := 150 } : Room) (va_Pc [.ref al, .ref v] (hB l D cy ad b μ P [(al, .inr (13, [.int mc, .ref ar, .int (nI 10)])), (ar, .inl (cy 4, 10, .inr (.inr (.inr (.inr g)))))])) (hQ b (fun rv H => ∃ ar9, rv = some (.int 1) ∧ hW D cy ad b μ P [(al, .inr (13, [.int (mc + (1 : Int32)), .ref ar9, .int (nI 11)])), (ar9, .inl (cy 4, 15, .inr (.inr (.inr (.inr (va_up (va_cpy g (fun _ => none) 0 0 10) 10 (some v)))))))] H)) 1 15 (hA b) := by
  refine va_MetF (cc := cJx4a65c_add_9ea2d) (maxL := 2) (ret := (some .boolean)) (by decide +kernel) rfl ?_
  intro p e s m args below meth c s₁ B hml0 hv
  obtain ⟨rfl, E, hM⟩ := hv
  obtain ⟨hx, hb, hml, hown, hlocks, hr⟩ := (gF_of B hml0 : gF p s m meth c cJx4a65c_add_9ea2d RJx4a65c 2 (some .boolean))
  have hS : va_S (hA b) s.heap s.heap [] := va_S.rf
  have hl := lv_entry ([.ref al, .ref v]) (n := 2) (Nat.le_of_ble_eq_true rfl)
  rw [lg_entry_eq]
  generalize (lg_sl ([.ref al, .ref v]) ++ List.replicate (2 - (lg_sl ([.ref al, .ref v])).length) Slot.unset).toArray = ls at hl ⊢
  have hl : lv_has ls 2 [(0, .ref al), (1, .ref v)] := hl
  refine lv_aload_n hx hb dJx4a65c_add_9ea2d_0 rfl (lv_at hl 0 rfl) ?_
  refine lv_dup hx hb dJx4a65c_add_9ea2d_1 rfl ?_
  refine h_getU hx hb hown E hM (ht_m (List.mem_of_getElem? (i := 0) rfl)) gC_Jx4a65c 0 (by decide) (v := .int mc) rfl kw_532 kz_531 dJx4a65c_add_9ea2d_2 ?_
  refine lv_iconst (v := (1 : Int32)) hx hb dJx4a65c_add_9ea2d_5 (by decide) ?_
  refine lv_iadd hx hb dJx4a65c_add_9ea2d_6 ?_
  refine h_putU (j := 0) hx hb hown E hM hS rfl gC_Jx4a65c 0 (by decide) rfl (tyJx4a65c_ok 0 (by decide)) rfl rfl kw_532 kz_531 (Nat.le_of_ble_eq_true rfl) dJx4a65c_add_9ea2d_7 (fun H locs hM hS => ?_)
  replace hM : hW D cy ad b μ P [(al, .inr (13, [.int (mc + (1 : Int32)), .ref ar, .int (nI 10)])), (ar, .inl (cy 4, 10, .inr (.inr (.inr (.inr g)))))] H := hM
  refine lv_aload_n hx hb dJx4a65c_add_9ea2d_10 rfl (lv_at hl 0 rfl) ?_
  refine lv_aload_n hx hb dJx4a65c_add_9ea2d_11 rfl (lv_at hl 1 rfl) ?_
  refine lv_aload_n hx hb dJx4a65c_add_9ea2d_12 rfl (lv_at hl 0 rfl) ?_
  refine h_get hx hb hown E hM (ht_m (List.mem_of_getElem? (i := 0) rfl)) gC_Jx4a65c 1 (by decide) (v := .ref ar) rfl kw_525 dJx4a65c_add_9ea2d_13 ?_
  refine lv_aload_n hx hb dJx4a65c_add_9ea2d_16 rfl (lv_at hl 0 rfl) ?_
  refine h_get hx hb hown E hM (ht_m (List.mem_of_getElem? (i := 0) rfl)) gC_Jx4a65c 2 (by decide) (v := .int (nI 10)) rfl kw_528 dJx4a65c_add_9ea2d_17 ?_
  refine h_callV (As := [.ref v, .ref ar, .int (nI 10)]) (rest := []) hx hb (hml.trans hl.1.symm) hown E hM hS xy_Jx4a65c_add_72be8 kw_823 (c_addp10 hv9 hel) (ht_m (List.mem_of_getElem? (i := 0) rfl)) gC_Jx4a65c.1 rfl rfl (Nat.le_of_ble_eq_true rfl) ⟨(Nat.le_of_ble_eq_true rfl), (Nat.le_of_ble_eq_true rfl)⟩ ⟨(Nat.le_of_ble_eq_true rfl), (Nat.le_of_ble_eq_true rfl)⟩ dJx4a65c_add_9ea2d_20 (fun rv H locs hZ hS => ?_)
  obtain ⟨ar9, rfl, hM⟩ := hZ
  replace hM : hW D cy ad b μ P [(al, .inr (13, [.int (mc + (1 : Int32)), .ref ar9, .int (nI 11)])), (ar9, .inl (cy 4, 15, .inr (.inr (.inr (.inr (va_up (va_cpy g (fun _ => none) 0 0 10) 10 (some v)))))))] H := hM
  refine lv_iconst (v := (1 : Int32)) hx hb dJx4a65c_add_9ea2d_23 (by decide) ?_
  exact h_zret hx hb hr hlocks (Nat.le_of_ble_eq_true rfl) (Nat.le_of_ble_eq_true rfl) rfl ⟨_, rfl, hM⟩ hS dJx4a65c_add_9ea2d_24

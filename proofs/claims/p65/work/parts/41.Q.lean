theorem dJ6_valueOf_2dffe_0 : decode cJ6_valueOf_2dffe 0 = .ok (.iload_n 0, 1) := by decide +kernel
theorem dJ6_valueOf_2dffe_1 : decode cJ6_valueOf_2dffe 1 = .ok (.bipush (-128), 2) := by decide +kernel
theorem dJ6_valueOf_2dffe_3 : decode cJ6_valueOf_2dffe 3 = .ok (.if_icmp .lt 20, 3) := by decide +kernel
theorem dJ6_valueOf_2dffe_6 : decode cJ6_valueOf_2dffe 6 = .ok (.iload_n 0, 1) := by decide +kernel
theorem dJ6_valueOf_2dffe_7 : decode cJ6_valueOf_2dffe 7 = .ok (.getstatic 191, 3) := by decide +kernel
theorem dJ6_valueOf_2dffe_10 : decode cJ6_valueOf_2dffe 10 = .ok (.if_icmp .gt 13, 3) := by decide +kernel
theorem dJ6_valueOf_2dffe_13 : decode cJ6_valueOf_2dffe 13 = .ok (.getstatic 195, 3) := by decide +kernel
theorem dJ6_valueOf_2dffe_16 : decode cJ6_valueOf_2dffe 16 = .ok (.iload_n 0, 1) := by decide +kernel
theorem dJ6_valueOf_2dffe_17 : decode cJ6_valueOf_2dffe 17 = .ok (.sipush 128, 3) := by decide +kernel
theorem dJ6_valueOf_2dffe_20 : decode cJ6_valueOf_2dffe 20 = .ok (.iadd, 1) := by decide +kernel
theorem dJ6_valueOf_2dffe_21 : decode cJ6_valueOf_2dffe 21 = .ok (.aaload, 1) := by decide +kernel
theorem dJ6_valueOf_2dffe_22 : decode cJ6_valueOf_2dffe 22 = .ok (.areturn, 1) := by decide +kernel
theorem dJ6_valueOf_2dffe_23 : decode cJ6_valueOf_2dffe 23 = .ok (.new 1, 3) := by decide +kernel
theorem dJ6_valueOf_2dffe_26 : decode cJ6_valueOf_2dffe 26 = .ok (.dup, 1) := by decide +kernel
theorem dJ6_valueOf_2dffe_27 : decode cJ6_valueOf_2dffe 27 = .ok (.iload_n 0, 1) := by decide +kernel
theorem dJ6_valueOf_2dffe_28 : decode cJ6_valueOf_2dffe 28 = .ok (.invokespecial 199, 3) := by decide +kernel
theorem dJ6_valueOf_2dffe_31 : decode cJ6_valueOf_2dffe 31 = .ok (.areturn, 1) := by decide +kernel
set_option maxHeartbeats 4000000 in
set_option maxRecDepth 100000 in
theorem c_valueOf {l : Launch} {D : va_G} {cy : Nat → ClassId} {ad : Nat → Nat} {b : Nat} {μ : gM} {P : va_W} {x : Nat} (hx9 : x < 128) : Met l yJ6_valueOf_2dffe [.code yJ6_valueOf_2dffe cJ6_valueOf_2dffe 1 (some (.object "java/lang/Integer"))] ({ frames := 0, cells := 0, slots := 0, locals := 0 } : Room) (va_Pc [.int (nI x)] (hB l D cy ad b μ P [])) (hQ b (fun rv H => rv = some (.ref (ad (200 + (128 + x)))) ∧ hW D cy ad b μ P [] H)) 0 0 (hA b) := by
  refine va_MetF (cc := cJ6_valueOf_2dffe) (maxL := 1) (ret := (some (.object "java/lang/Integer"))) (by decide +kernel) rfl ?_
  intro p e s m args below meth c s₁ B hml0 hv
  obtain ⟨rfl, E, hM⟩ := hv
  obtain ⟨hx, hb, hml, hown, hlocks, hr⟩ := (gF_of B hml0 : gF p s m meth c cJ6_valueOf_2dffe RJ6 1 (some (.object "java/lang/Integer")))
  have hS : va_S (hA b) s.heap s.heap [] := va_S.rf
  have hl := lv_entry ([.int (nI x)]) (n := 1) (Nat.le_of_ble_eq_true rfl)
  rw [lg_entry_eq]
  generalize (lg_sl ([.int (nI x)]) ++ List.replicate (1 - (lg_sl ([.int (nI x)])).length) Slot.unset).toArray = ls at hl ⊢
  have hl : lv_has ls 1 [(0, .int (nI x))] := hl
  refine lv_iload_n hx hb dJ6_valueOf_2dffe_0 rfl (lv_at hl 0 rfl) ?_
  refine lv_bipush (v := (-128 : Int32)) hx hb dJ6_valueOf_2dffe_1 (by decide) ?_
  refine lv_icmp_lt (tgt := 23) hx hb dJ6_valueOf_2dffe_3 (by decide) (fun c1 => ?_) (fun c1 => ?_)
  · exact absurd c1 (nI_neg128 hx9)
  · refine lv_iload_n hx hb dJ6_valueOf_2dffe_6 rfl (lv_at hl 0 rfl) ?_
    refine va_gets (v := .int 127) hx hb E.2.2.2.1 hS hown (E.kw kw_1411) (fun _ h9 => h9) dJ6_valueOf_2dffe_7 ?_
    refine lv_icmp_gt (tgt := 23) hx hb dJ6_valueOf_2dffe_10 (by decide) (fun c2 => ?_) (fun c2 => ?_)
    · exact absurd c2 (show ¬ nI 127 < nI x from nI_nlt (by omega) (by decide))
    · refine va_gets (v := .ref (ad 460)) hx hb E.2.2.2.2.1 hS hown (E.kw kw_1413) (fun _ h9 => h9) dJ6_valueOf_2dffe_13 ?_
      refine lv_iload_n hx hb dJ6_valueOf_2dffe_16 rfl (lv_at hl 0 rfl) ?_
      refine lv_sipush (v := (128 : Int32)) hx hb dJ6_valueOf_2dffe_17 (by decide) ?_
      refine lv_iadd hx hb dJ6_valueOf_2dffe_20 ?_
      rw [show (nI x + (128 : Int32)) = nI (128 + x) from ((nI_add x 128).trans (congrArg nI (Nat.add_comm x 128)))]
      refine vb_tq (i := nI (128 + x)) hx hb E.2.2.2.2.2.1 hS (gIn_v (x_in (by omega) (by decide))) (v := .ref (ad (200 + (128 + x)))) (by rw [nI_clamp (by omega)]) dJ6_valueOf_2dffe_21 ?_
      exact h_aret hx hb hr (Or.inl ⟨_, rfl⟩) hlocks (Nat.le_of_ble_eq_true rfl) (Nat.le_of_ble_eq_true rfl) ⟨rfl, hM⟩ hS dJ6_valueOf_2dffe_22
theorem dJ6_intValue_8abf5_0 : decode cJ6_intValue_8abf5 0 = .ok (.aload_n 0, 1) := by decide +kernel
theorem dJ6_intValue_8abf5_1 : decode cJ6_intValue_8abf5 1 = .ok (.getfield 205, 3) := by decide +kernel
theorem dJ6_intValue_8abf5_4 : decode cJ6_intValue_8abf5 4 = .ok (.ireturn, 1) := by decide +kernel
set_option maxHeartbeats 4000000 in
set_option maxRecDepth 100000 in
theorem c_intValue {l : Launch} {D : va_G} {cy : Nat → ClassId} {ad : Nat → Nat} {b : Nat} {μ : gM} {P : va_W} {x : Nat} (hx9 : x < 128) : Met l yJ6_intValue_8abf5 [.code yJ6_intValue_8abf5 cJ6_intValue_8abf5 1 (some .int)] ({ frames := 0, cells := 0, slots := 0, locals := 0 } : Room) (va_Pc [.ref (ad (200 + (128 + x)))] (hB l D cy ad b μ P [])) (hQ b (fun rv H => rv = some (.int (nI x)) ∧ hW D cy ad b μ P [] H)) 0 0 (hA b) := by
  refine va_MetF (cc := cJ6_intValue_8abf5) (maxL := 1) (ret := (some .int)) (by decide +kernel) rfl ?_
  intro p e s m args below meth c s₁ B hml0 hv
  obtain ⟨rfl, E, hM⟩ := hv
  obtain ⟨hx, hb, hml, hown, hlocks, hr⟩ := (gF_of B hml0 : gF p s m meth c cJ6_intValue_8abf5 RJ6 1 (some .int))
  have hS : va_S (hA b) s.heap s.heap [] := va_S.rf
  have hl := lv_entry ([.ref (ad (200 + (128 + x)))]) (n := 1) (Nat.le_of_ble_eq_true rfl)
  rw [lg_entry_eq]
  generalize (lg_sl ([.ref (ad (200 + (128 + x)))]) ++ List.replicate (1 - (lg_sl ([.ref (ad (200 + (128 + x)))])).length) Slot.unset).toArray = ls at hl ⊢
  have hl : lv_has ls 1 [(0, .ref (ad (200 + (128 + x))))] := hl
  refine lv_aload_n hx hb dJ6_intValue_8abf5_0 rfl (lv_at hl 0 rfl) ?_
  refine h_box hx hb hown E hS (by omega) kw_1424 (v := nI x) (vb_c_n x) dJ6_intValue_8abf5_1 ?_
  exact h_iret hx hb hr hlocks (Nat.le_of_ble_eq_true rfl) (Nat.le_of_ble_eq_true rfl) ⟨rfl, hM⟩ hS dJ6_intValue_8abf5_4
theorem dJxa1e45_init_da8c8_0 : decode cJxa1e45_init_da8c8 0 = .ok (.aload_n 0, 1) := by decide +kernel
theorem dJxa1e45_init_da8c8_1 : decode cJxa1e45_init_da8c8 1 = .ok (.invokespecial 1, 3) := by decide +kernel
theorem dJxa1e45_init_da8c8_4 : decode cJxa1e45_init_da8c8 4 = .ok (.return_, 1) := by decide +kernel
set_option maxHeartbeats 4000000 in
set_option maxRecDepth 100000 in
theorem c_acinit {l : Launch} {D : va_G} {cy : Nat → ClassId} {ad : Nat → Nat} {b : Nat} {μ : gM} {P : va_W} {a : Nat}  : Met l yJxa1e45_init_da8c8 [.code yJxa1e45_init_da8c8 cJxa1e45_init_da8c8 1 none] ({ frames := 1, cells := 0, slots := 0, locals := 30 } : Room) (va_Pc [.ref a] (hB l D cy ad b μ P [])) (hQ b (fun rv H => rv = none ∧ hW D cy ad b μ P [] H)) 0 0 (hA b) := by
  refine va_MetF (cc := cJxa1e45_init_da8c8) (maxL := 1) (ret := none) (by decide +kernel) rfl ?_
  intro p e s m args below meth c s₁ B hml0 hv
  obtain ⟨rfl, E, hM⟩ := hv
  obtain ⟨hx, hb, hml, hown, hlocks, hr⟩ := (gF_of B hml0 : gF p s m meth c cJxa1e45_init_da8c8 RJxa1e45 1 none)
  have hin : meth.name = "<init>" := (name_of_methodNamed B.named B.method).1
  have hS : va_S (hA b) s.heap s.heap [] := va_S.rf
  have hl := lv_entry ([.ref a]) (n := 1) (Nat.le_of_ble_eq_true rfl)
  rw [lg_entry_eq]
  generalize (lg_sl ([.ref a]) ++ List.replicate (1 - (lg_sl ([.ref a])).length) Slot.unset).toArray = ls at hl ⊢
  have hl : lv_has ls 1 [(0, .ref a)] := hl
  refine lv_aload_n hx hb dJxa1e45_init_da8c8_0 rfl (lv_at hl 0 rfl) ?_
  refine W.objInit hx hb hown (E.kw kw_522) (E.kw kw_161) (E.kw kw_162) rfl (hl.1.trans hml.symm) rfl dJxa1e45_init_da8c8_1 (Nat.le_of_ble_eq_true rfl) (Nat.le_of_ble_eq_true rfl) ?_
  exact h_vret hx hb hr hlocks (Nat.le_of_ble_eq_true rfl) (Nat.le_of_ble_eq_true rfl) ⟨rfl, hM⟩ hS dJxa1e45_init_da8c8_4
theorem xi_Jxa1e45_init_da8c8 : gYI yJxa1e45_init_da8c8 cJxa1e45_init_da8c8 1 0 := ⟨kw_521, kw_59, kw_520, ⟨by decide +kernel, by decide +kernel⟩, by decide +kernel, rfl⟩
theorem dX10_init_0 : decode cX10_init 0 = .ok (.aload_n 0, 1) := by decide +kernel
theorem dX10_init_1 : decode cX10_init 1 = .ok (.invokespecial 42, 3) := by decide +kernel
theorem dX10_init_4 : decode cX10_init 4 = .ok (.aload_n 0, 1) := by decide +kernel
theorem dX10_init_5 : decode cX10_init 5 = .ok (.bipush 17, 2) := by decide +kernel
theorem dX10_init_7 : decode cX10_init 7 = .ok (.anewarray 47, 3) := by decide +kernel
theorem dX10_init_10 : decode cX10_init 10 = .ok (.putfield 3, 3) := by decide +kernel
theorem dX10_init_13 : decode cX10_init 13 = .ok (.return_, 1) := by decide +kernel
set_option maxHeartbeats 4000000 in
set_option maxRecDepth 100000 in
theorem c_dqinit {l : Launch} {D : va_G} {cy : Nat → ClassId} {ad : Nat → Nat} {b : Nat} {μ : gM} {P : va_W} {a : Nat} {q : Nat → Nat}  : Met l yX10_init [.code yX10_init cX10_init 1 none] ({ frames := 2, cells := 1, slots := 17, locals := 50 } : Room) (va_Pc [.ref a] (hB l D cy ad b μ P [(a, .inr (14, [.null, .int 0, .int 0]))])) (hQ b (fun rv H => ∃ ae, rv = none ∧ hW D cy ad b μ P (hdq cy ad a ae 0 0 q) H)) 1 17 (hA b) := by
  refine va_MetF (cc := cX10_init) (maxL := 1) (ret := none) (by decide +kernel) rfl ?_
  intro p e s m args below meth c s₁ B hml0 hv
  obtain ⟨rfl, E, hM⟩ := hv
  obtain ⟨hx, hb, hml, hown, hlocks, hr⟩ := (gF_of B hml0 : gF p s m meth c cX10_init RX10 1 none)
  have hin : meth.name = "<init>" := (name_of_methodNamed B.named B.method).1
  have hS : va_S (hA b) s.heap s.heap [] := va_S.rf
  have hl := lv_entry ([.ref a]) (n := 1) (Nat.le_of_ble_eq_true rfl)
  rw [lg_entry_eq]
  generalize (lg_sl ([.ref a]) ++ List.replicate (1 - (lg_sl ([.ref a])).length) Slot.unset).toArray = ls at hl ⊢
  have hl : lv_has ls 1 [(0, .ref a)] := hl
  refine lv_aload_n hx hb dX10_init_0 rfl (lv_at hl 0 rfl) ?_
  replace hM := hW.right (X := [(a, .inr (14, [.null, .int 0, .int 0]))]) (T := []) hM
  refine h_callI (As := []) (rest := []) hx hb (hml.trans hl.1.symm) hown E hM hS xi_Jxa1e45_init_da8c8 kw_1394 (c_acinit) rfl rfl (Nat.le_of_ble_eq_true rfl) ⟨(Nat.le_of_ble_eq_true rfl), (Nat.le_of_ble_eq_true rfl)⟩ ⟨(Nat.le_of_ble_eq_true rfl), (Nat.le_of_ble_eq_true rfl)⟩ dX10_init_1 (fun rv H locs hZ hS => ?_)
  obtain ⟨rfl, hM⟩ := hZ
  replace hM := hW.left (X := [(a, .inr (14, [.null, .int 0, .int 0]))]) (T := []) hM
  replace hM : hW D cy ad b μ P [(a, .inr (14, [.null, .int 0, .int 0]))] H := hM
  refine lv_aload_n hx hb dX10_init_4 rfl (lv_at hl 0 rfl) ?_
  refine lv_bipush (v := (17 : Int32)) hx hb dX10_init_5 (by decide) ?_
  refine h_newq (N := 17) hx hb hown E hM hS rfl (by decide) kw_1395 (Nat.le_of_ble_eq_true rfl) (Nat.le_of_ble_eq_true rfl) dX10_init_7 (fun a1 H hM hS => ?_)
  replace hM : hW D cy ad b μ P [(a, .inr (14, [.null, .int 0, .int 0])), (a1, .inl (cy 4, 17, .inr (.inr (.inr (.inr (fun _ => none))))))] H := hM
  refine h_put (j := 0) hx hb hown E hM hS rfl gC_X10 0 (by decide) rfl (tyX10_ok 0 (by decide)) rfl rfl kw_1396 (Nat.le_of_ble_eq_true rfl) dX10_init_10 (fun H locs hM hS => ?_)
  replace hM : hW D cy ad b μ P [(a, .inr (14, [.ref a1, .int 0, .int 0])), (a1, .inl (cy 4, 17, .inr (.inr (.inr (.inr (fun _ => none))))))] H := hM
  exact h_vret hx hb hr hlocks (Nat.le_of_ble_eq_true rfl) (Nat.le_of_ble_eq_true rfl) ⟨a1, rfl, by rw [hdg_0 (ad := ad) (q := q)] at hM; exact hM⟩ hS dX10_init_13
theorem dX10_inc_0 : decode cX10_inc 0 = .ok (.iinc 0 1, 3) := by decide +kernel
theorem dX10_inc_3 : decode cX10_inc 3 = .ok (.iload_n 0, 1) := by decide +kernel
theorem dX10_inc_4 : decode cX10_inc 4 = .ok (.iload_n 1, 1) := by decide +kernel
theorem dX10_inc_5 : decode cX10_inc 5 = .ok (.if_icmp .lt 5, 3) := by decide +kernel
theorem dX10_inc_8 : decode cX10_inc 8 = .ok (.iconst 0, 1) := by decide +kernel
theorem dX10_inc_9 : decode cX10_inc 9 = .ok (.istore_n 0, 1) := by decide +kernel
theorem dX10_inc_10 : decode cX10_inc 10 = .ok (.iload_n 0, 1) := by decide +kernel
theorem dX10_inc_11 : decode cX10_inc 11 = .ok (.ireturn, 1) := by decide +kernel
set_option maxHeartbeats 4000000 in
set_option maxRecDepth 100000 in
theorem c_inc {l : Launch} {D : va_G} {cy : Nat → ClassId} {ad : Nat → Nat} {b : Nat} {μ : gM} {P : va_W} {k n : Nat} (hk : k + 1 < n) (hn : n < 2 ^ 31) : Met l yX10_inc [.code yX10_inc cX10_inc 2 (some .int)] ({ frames := 0, cells := 0, slots := 0, locals := 0 } : Room) (va_Pc [.int (nI k), .int (nI n)] (hB l D cy ad b μ P [])) (hQ b (fun rv H => rv = some (.int (nI (k + 1))) ∧ hW D cy ad b μ P [] H)) 0 0 (hA b) := by
  refine va_MetF (cc := cX10_inc) (maxL := 2) (ret := (some .int)) (by decide +kernel) rfl ?_
  intro p e s m args below meth c s₁ B hml0 hv
  obtain ⟨rfl, E, hM⟩ := hv
  obtain ⟨hx, hb, hml, hown, hlocks, hr⟩ := (gF_of B hml0 : gF p s m meth c cX10_inc RX10 2 (some .int))
  have hS : va_S (hA b) s.heap s.heap [] := va_S.rf
  have hl := lv_entry ([.int (nI k), .int (nI n)]) (n := 2) (Nat.le_of_ble_eq_true rfl)
  rw [lg_entry_eq]
  generalize (lg_sl ([.int (nI k), .int (nI n)]) ++ List.replicate (2 - (lg_sl ([.int (nI k), .int (nI n)])).length) Slot.unset).toArray = ls at hl ⊢
  have hl : lv_has ls 2 [(0, .int (nI k)), (1, .int (nI n))] := hl
  refine lv_iinc (v := nI (k + 1)) (lv' := [(0, .int (nI (k + 1))), (1, .int (nI n))]) hx hb dX10_inc_0 hl (k := 0) rfl (nI_1 k) (by decide) rfl (fun ls hl => ?_)
  refine lv_iload_n hx hb dX10_inc_3 rfl (lv_at hl 0 rfl) ?_
  refine lv_iload_n hx hb dX10_inc_4 rfl (lv_at hl 1 rfl) ?_
  refine lv_icmp_lt (tgt := 10) hx hb dX10_inc_5 (by decide) (fun c1 => ?_) (fun c1 => ?_)
  · refine lv_iload_n hx hb dX10_inc_10 rfl (lv_at hl 0 rfl) ?_
    exact h_iret hx hb hr hlocks (Nat.le_of_ble_eq_true rfl) (Nat.le_of_ble_eq_true rfl) ⟨rfl, hM⟩ hS dX10_inc_11
  · exact absurd (nI_lt hk hn) c1
theorem dX10_isEmpty_0 : decode cX10_isEmpty 0 = .ok (.aload_n 0, 1) := by decide +kernel
theorem dX10_isEmpty_1 : decode cX10_isEmpty 1 = .ok (.getfield 24, 3) := by decide +kernel
theorem dX10_isEmpty_4 : decode cX10_isEmpty 4 = .ok (.aload_n 0, 1) := by decide +kernel
theorem dX10_isEmpty_5 : decode cX10_isEmpty 5 = .ok (.getfield 20, 3) := by decide +kernel
theorem dX10_isEmpty_8 : decode cX10_isEmpty 8 = .ok (.if_icmp .ne 7, 3) := by decide +kernel
theorem dX10_isEmpty_11 : decode cX10_isEmpty 11 = .ok (.iconst 1, 1) := by decide +kernel
theorem dX10_isEmpty_12 : decode cX10_isEmpty 12 = .ok (.goto 4, 3) := by decide +kernel
theorem dX10_isEmpty_15 : decode cX10_isEmpty 15 = .ok (.iconst 0, 1) := by decide +kernel
theorem dX10_isEmpty_16 : decode cX10_isEmpty 16 = .ok (.ireturn, 1) := by decide +kernel
set_option maxHeartbeats 4000000 in
set_option maxRecDepth 100000 in
theorem c_dqempty1 {l : Launch} {D : va_G} {cy : Nat → ClassId} {ad : Nat → Nat} {b : Nat} {μ : gM} {P : va_W} {a ae h t : Nat} {q : Nat → Nat} (hht : h = t) : Met l yX10_isEmpty [.code yX10_isEmpty cX10_isEmpty 1 (some .boolean)] ({ frames := 0, cells := 0, slots := 0, locals := 0 } : Room) (va_Pc [.ref a] (hB l D cy ad b μ P [(a, .inr (14, [.ref ae, .int (nI h), .int (nI t)])), (ae, .inl (cy 4, 17, .inr (.inr (.inr (.inr (hdg ad h t q))))))])) (hQ b (fun rv H => rv = some (.int 1) ∧ hW D cy ad b μ P (hdq cy ad a ae h t q) H)) 0 0 (hA b) := by
  refine va_MetF (cc := cX10_isEmpty) (maxL := 1) (ret := (some .boolean)) (by decide +kernel) rfl ?_
  intro p e s m args below meth c s₁ B hml0 hv
  obtain ⟨rfl, E, hM⟩ := hv
  obtain ⟨hx, hb, hml, hown, hlocks, hr⟩ := (gF_of B hml0 : gF p s m meth c cX10_isEmpty RX10 1 (some .boolean))
  have hS : va_S (hA b) s.heap s.heap [] := va_S.rf
  have hl := lv_entry ([.ref a]) (n := 1) (Nat.le_of_ble_eq_true rfl)
  rw [lg_entry_eq]
  generalize (lg_sl ([.ref a]) ++ List.replicate (1 - (lg_sl ([.ref a])).length) Slot.unset).toArray = ls at hl ⊢
  have hl : lv_has ls 1 [(0, .ref a)] := hl
  refine lv_aload_n hx hb dX10_isEmpty_0 rfl (lv_at hl 0 rfl) ?_
  refine h_get hx hb hown E hM (ht_m (List.mem_of_getElem? (i := 0) rfl)) gC_X10 1 (by decide) (v := .int (nI h)) rfl kw_1397 dX10_isEmpty_1 ?_
  refine lv_aload_n hx hb dX10_isEmpty_4 rfl (lv_at hl 0 rfl) ?_
  refine h_get hx hb hown E hM (ht_m (List.mem_of_getElem? (i := 0) rfl)) gC_X10 2 (by decide) (v := .int (nI t)) rfl kw_1398 dX10_isEmpty_5 ?_
  refine lv_icmp_ne (tgt := 15) hx hb dX10_isEmpty_8 (by decide) (fun c1 => ?_) (fun c1 => ?_)
  · exact absurd (by rw [hht]) c1
  · refine lv_iconst (v := (1 : Int32)) hx hb dX10_isEmpty_11 (by decide) ?_
    refine lv_goto (tgt := 16) hx hb dX10_isEmpty_12 (by decide) ?_
    exact h_zret hx hb hr hlocks (Nat.le_of_ble_eq_true rfl) (Nat.le_of_ble_eq_true rfl) rfl ⟨rfl, hM⟩ hS dX10_isEmpty_16
set_option maxHeartbeats 4000000 in
set_option maxRecDepth 100000 in
theorem c_dqempty0 {l : Launch} {D : va_G} {cy : Nat → ClassId} {ad : Nat → Nat} {b : Nat} {μ : gM} {P : va_W} {a ae h t : Nat} {q : Nat → Nat} (hht : h < t) (ht : t < 17) : Met l yX10_isEmpty [.code yX10_isEmpty cX10_isEmpty 1 (some .boolean)] ({ frames := 0, cells := 0, slots := 0, locals := 0 } : Room) (va_Pc [.ref a] (hB l D cy ad b μ P [(a, .inr (14, [.ref ae, .int (nI h), .int (nI t)])), (ae, .inl (cy 4, 17, .inr (.inr (.inr (.inr (hdg ad h t q))))))])) (hQ b (fun rv H => rv = some (.int 0) ∧ hW D cy ad b μ P (hdq cy ad a ae h t q) H)) 0 0 (hA b) := by
  refine va_MetF (cc := cX10_isEmpty) (maxL := 1) (ret := (some .boolean)) (by decide +kernel) rfl ?_
  intro p e s m args below meth c s₁ B hml0 hv
  obtain ⟨rfl, E, hM⟩ := hv
  obtain ⟨hx, hb, hml, hown, hlocks, hr⟩ := (gF_of B hml0 : gF p s m meth c cX10_isEmpty RX10 1 (some .boolean))
  have hS : va_S (hA b) s.heap s.heap [] := va_S.rf
  have hl := lv_entry ([.ref a]) (n := 1) (Nat.le_of_ble_eq_true rfl)
  rw [lg_entry_eq]
  generalize (lg_sl ([.ref a]) ++ List.replicate (1 - (lg_sl ([.ref a])).length) Slot.unset).toArray = ls at hl ⊢
  have hl : lv_has ls 1 [(0, .ref a)] := hl
  refine lv_aload_n hx hb dX10_isEmpty_0 rfl (lv_at hl 0 rfl) ?_
  refine h_get hx hb hown E hM (ht_m (List.mem_of_getElem? (i := 0) rfl)) gC_X10 1 (by decide) (v := .int (nI h)) rfl kw_1397 dX10_isEmpty_1 ?_
  refine lv_aload_n hx hb dX10_isEmpty_4 rfl (lv_at hl 0 rfl) ?_
  refine h_get hx hb hown E hM (ht_m (List.mem_of_getElem? (i := 0) rfl)) gC_X10 2 (by decide) (v := .int (nI t)) rfl kw_1398 dX10_isEmpty_5 ?_
  refine lv_icmp_ne (tgt := 15) hx hb dX10_isEmpty_8 (by decide) (fun c1 => ?_) (fun c1 => ?_)
  · refine lv_iconst (v := (0 : Int32)) hx hb dX10_isEmpty_15 (by decide) ?_
    exact h_zret hx hb hr hlocks (Nat.le_of_ble_eq_true rfl) (Nat.le_of_ble_eq_true rfl) rfl ⟨rfl, hM⟩ hS dX10_isEmpty_16
  · exact absurd c1 (fun z => by have := (nI_eq (by omega) (by omega)).mp z; omega)
theorem xs_X10_inc : gYS yX10_inc cX10_inc 2 (some .int) 2 := ⟨kw_1434, kw_80, kw_1433, ⟨by decide +kernel, by decide +kernel⟩, by decide +kernel⟩
theorem dX10_addLast_0 : decode cX10_addLast 0 = .ok (.aload_n 1, 1) := by decide +kernel
theorem dX10_addLast_1 : decode cX10_addLast 1 = .ok (.ifnonnull 11, 3) := by decide +kernel
theorem dX10_addLast_4 : decode cX10_addLast 4 = .ok (.new 65, 3) := by decide +kernel
theorem dX10_addLast_7 : decode cX10_addLast 7 = .ok (.dup, 1) := by decide +kernel
theorem dX10_addLast_8 : decode cX10_addLast 8 = .ok (.invokespecial 67, 3) := by decide +kernel
theorem dX10_addLast_11 : decode cX10_addLast 11 = .ok (.athrow, 1) := by decide +kernel
theorem dX10_addLast_12 : decode cX10_addLast 12 = .ok (.aload_n 0, 1) := by decide +kernel
theorem dX10_addLast_13 : decode cX10_addLast 13 = .ok (.getfield 3, 3) := by decide +kernel
theorem dX10_addLast_16 : decode cX10_addLast 16 = .ok (.astore_n 2, 1) := by decide +kernel
theorem dX10_addLast_17 : decode cX10_addLast 17 = .ok (.aload_n 2, 1) := by decide +kernel
theorem dX10_addLast_18 : decode cX10_addLast 18 = .ok (.aload_n 0, 1) := by decide +kernel
theorem dX10_addLast_19 : decode cX10_addLast 19 = .ok (.getfield 20, 3) := by decide +kernel
theorem dX10_addLast_22 : decode cX10_addLast 22 = .ok (.aload_n 1, 1) := by decide +kernel
theorem dX10_addLast_23 : decode cX10_addLast 23 = .ok (.aastore, 1) := by decide +kernel
theorem dX10_addLast_24 : decode cX10_addLast 24 = .ok (.aload_n 0, 1) := by decide +kernel
theorem dX10_addLast_25 : decode cX10_addLast 25 = .ok (.getfield 24, 3) := by decide +kernel
theorem dX10_addLast_28 : decode cX10_addLast 28 = .ok (.aload_n 0, 1) := by decide +kernel
theorem dX10_addLast_29 : decode cX10_addLast 29 = .ok (.aload_n 0, 1) := by decide +kernel
theorem dX10_addLast_30 : decode cX10_addLast 30 = .ok (.getfield 20, 3) := by decide +kernel
theorem dX10_addLast_33 : decode cX10_addLast 33 = .ok (.aload_n 2, 1) := by decide +kernel
theorem dX10_addLast_34 : decode cX10_addLast 34 = .ok (.arraylength, 1) := by decide +kernel
theorem dX10_addLast_35 : decode cX10_addLast 35 = .ok (.invokestatic 74, 3) := by decide +kernel
theorem dX10_addLast_38 : decode cX10_addLast 38 = .ok (.dup_x1, 1) := by decide +kernel
theorem dX10_addLast_39 : decode cX10_addLast 39 = .ok (.putfield 20, 3) := by decide +kernel
theorem dX10_addLast_42 : decode cX10_addLast 42 = .ok (.if_icmp .ne 8, 3) := by decide +kernel
theorem dX10_addLast_45 : decode cX10_addLast 45 = .ok (.aload_n 0, 1) := by decide +kernel
theorem dX10_addLast_46 : decode cX10_addLast 46 = .ok (.iconst 1, 1) := by decide +kernel
theorem dX10_addLast_47 : decode cX10_addLast 47 = .ok (.invokevirtual 71, 3) := by decide +kernel
theorem dX10_addLast_50 : decode cX10_addLast 50 = .ok (.return_, 1) := by decide +kernel
set_option maxHeartbeats 4000000 in
set_option maxRecDepth 100000 in
theorem c_dqadd {l : Launch} {D : va_G} {cy : Nat → ClassId} {ad : Nat → Nat} {b : Nat} {μ : gM} {P : va_W} {a ae h t x : Nat} {q : Nat → Nat} (hx9 : x < 128) (hht : h ≤ t) (ht : t < 16) : Met l yX10_addLast [.code yX10_addLast cX10_addLast 3 none] ({ frames := 1, cells := 0, slots := 0, locals := 21 } : Room) (va_Pc [.ref a, .ref (ad (200 + (128 + x)))] (hB l D cy ad b μ P [(a, .inr (14, [.ref ae, .int (nI h), .int (nI t)])), (ae, .inl (cy 4, 17, .inr (.inr (.inr (.inr (hdg ad h t q))))))])) (hQ b (fun rv H => rv = none ∧ hW D cy ad b μ P (hdq cy ad a ae h (t + 1) (fun j => if j = t then x else q j)) H)) 0 0 (hA b) := by
  refine va_MetF (cc := cX10_addLast) (maxL := 3) (ret := none) (by decide +kernel) rfl ?_
  intro p e s m args below meth c s₁ B hml0 hv
  obtain ⟨rfl, E, hM⟩ := hv
  obtain ⟨hx, hb, hml, hown, hlocks, hr⟩ := (gF_of B hml0 : gF p s m meth c cX10_addLast RX10 3 none)
  have hS : va_S (hA b) s.heap s.heap [] := va_S.rf
  have hl := lv_entry ([.ref a, .ref (ad (200 + (128 + x)))]) (n := 3) (Nat.le_of_ble_eq_true rfl)
  rw [lg_entry_eq]
  generalize (lg_sl ([.ref a, .ref (ad (200 + (128 + x)))]) ++ List.replicate (3 - (lg_sl ([.ref a, .ref (ad (200 + (128 + x)))])).length) Slot.unset).toArray = ls at hl ⊢
  have hl : lv_has ls 3 [(0, .ref a), (1, .ref (ad (200 + (128 + x))))] := hl
  refine lv_aload_n hx hb dX10_addLast_0 rfl (lv_at hl 1 rfl) ?_
  refine lv_ifnonnull (tgt := 12) hx hb dX10_addLast_1 (by decide) ?_
  refine lv_aload_n hx hb dX10_addLast_12 rfl (lv_at hl 0 rfl) ?_
  refine h_get hx hb hown E hM (ht_m (List.mem_of_getElem? (i := 0) rfl)) gC_X10 0 (by decide) (v := .ref ae) rfl kw_1396 dX10_addLast_13 ?_
  refine lv_astore_n (lv' := [(2, .ref ae), (0, .ref a), (1, .ref (ad (200 + (128 + x))))]) hx hb dX10_addLast_16 rfl hl (by decide) rfl (fun ls hl => ?_)
  refine lv_aload_n hx hb dX10_addLast_17 rfl (lv_at hl 0 rfl) ?_
  refine lv_aload_n hx hb dX10_addLast_18 rfl (lv_at hl 1 rfl) ?_
  refine h_get hx hb hown E hM (ht_m (List.mem_of_getElem? (i := 0) rfl)) gC_X10 2 (by decide) (v := .int (nI t)) rfl kw_1398 dX10_addLast_19 ?_
  refine lv_aload_n hx hb dX10_addLast_22 rfl (lv_at hl 2 rfl) ?_
  refine h_astB (j := 1) hx hb E hM hS rfl (by omega) (i := nI t) (x_in (by omega) (by decide)) dX10_addLast_23 (fun H locs hM hS => ?_)
  rw [hdg_add hht (by omega)] at hM
  replace hM : hW D cy ad b μ P [(a, .inr (14, [.ref ae, .int (nI h), .int (nI t)])), (ae, .inl (cy 4, 17, .inr (.inr (.inr (.inr (hdg ad h (t + 1) (fun j => if j = t then x else q j)))))))] H := hM
  refine lv_aload_n hx hb dX10_addLast_24 rfl (lv_at hl 1 rfl) ?_
  refine h_get hx hb hown E hM (ht_m (List.mem_of_getElem? (i := 0) rfl)) gC_X10 1 (by decide) (v := .int (nI h)) rfl kw_1397 dX10_addLast_25 ?_
  refine lv_aload_n hx hb dX10_addLast_28 rfl (lv_at hl 1 rfl) ?_
  refine lv_aload_n hx hb dX10_addLast_29 rfl (lv_at hl 1 rfl) ?_
  refine h_get hx hb hown E hM (ht_m (List.mem_of_getElem? (i := 0) rfl)) gC_X10 2 (by decide) (v := .int (nI t)) rfl kw_1398 dX10_addLast_30 ?_
  refine lv_aload_n hx hb dX10_addLast_33 rfl (lv_at hl 0 rfl) ?_
  refine h_alen hx hb E hM 4 (ty := .object "java/lang/Object") (ht_m (List.mem_of_getElem? (i := 1) rfl)) rfl (v := nI 17) rfl dX10_addLast_34 ?_
  replace hM := hW.right (X := [(a, .inr (14, [.ref ae, .int (nI h), .int (nI t)])), (ae, .inl (cy 4, 17, .inr (.inr (.inr (.inr (hdg ad h (t + 1) (fun j => if j = t then x else q j)))))))]) (T := []) hM
  refine h_callS (As := [.int (nI t), .int (nI 17)]) (rest := [.ref a, .int (nI h)]) hx hb (hml.trans hl.1.symm) hown E hM hS xs_X10_inc kw_1432 (c_inc (by omega) (by decide)) rfl rfl (Nat.le_of_ble_eq_true rfl) ⟨(Nat.le_of_ble_eq_true rfl), (Nat.le_of_ble_eq_true rfl)⟩ ⟨(Nat.le_of_ble_eq_true rfl), (Nat.le_of_ble_eq_true rfl)⟩ dX10_addLast_35 (fun rv H locs hZ hS => ?_)
  obtain ⟨rfl, hM⟩ := hZ
  replace hM := hW.left (X := [(a, .inr (14, [.ref ae, .int (nI h), .int (nI t)])), (ae, .inl (cy 4, 17, .inr (.inr (.inr (.inr (hdg ad h (t + 1) (fun j => if j = t then x else q j)))))))]) (T := []) hM
  replace hM : hW D cy ad b μ P [(a, .inr (14, [.ref ae, .int (nI h), .int (nI t)])), (ae, .inl (cy 4, 17, .inr (.inr (.inr (.inr (hdg ad h (t + 1) (fun j => if j = t then x else q j)))))))] H := hM
  refine lv_dup_x1 hx hb dX10_addLast_38 rfl rfl ?_
  refine h_put (j := 0) hx hb hown E hM hS rfl gC_X10 2 (by decide) rfl (tyX10_ok 2 (by decide)) rfl rfl kw_1398 (Nat.le_of_ble_eq_true rfl) dX10_addLast_39 (fun H locs hM hS => ?_)
  replace hM : hW D cy ad b μ P [(a, .inr (14, [.ref ae, .int (nI h), .int (nI (t + 1))])), (ae, .inl (cy 4, 17, .inr (.inr (.inr (.inr (hdg ad h (t + 1) (fun j => if j = t then x else q j)))))))] H := hM
  refine lv_icmp_ne (tgt := 50) hx hb dX10_addLast_42 (by decide) (fun c1 => ?_) (fun c1 => ?_)
  · exact h_vret hx hb hr hlocks (Nat.le_of_ble_eq_true rfl) (Nat.le_of_ble_eq_true rfl) ⟨rfl, hM⟩ hS dX10_addLast_50
  · exact absurd c1 (fun z => by have := (nI_eq (by omega) (by omega)).mp z; omega)
theorem dX10_elementAt_0 : decode cX10_elementAt 0 = .ok (.aload_n 0, 1) := by decide +kernel
theorem dX10_elementAt_1 : decode cX10_elementAt 1 = .ok (.iload_n 1, 1) := by decide +kernel
theorem dX10_elementAt_2 : decode cX10_elementAt 2 = .ok (.aaload, 1) := by decide +kernel
theorem dX10_elementAt_3 : decode cX10_elementAt 3 = .ok (.areturn, 1) := by decide +kernel
set_option maxHeartbeats 4000000 in
set_option maxRecDepth 100000 in
theorem c_elat {l : Launch} {D : va_G} {cy : Nat → ClassId} {ad : Nat → Nat} {b : Nat} {μ : gM} {P : va_W} {ae n k v : Nat} {g : Nat → Option Nat} (hea : (ae, .inl (cy 4, n, .inr (.inr (.inr (.inr g))))) ∈ P) (hk : k < n) (hn : n < 2 ^ 31) (hg : g k = some v) : Met l yX10_elementAt [.code yX10_elementAt cX10_elementAt 2 (some (.object "java/lang/Object"))] ({ frames := 0, cells := 0, slots := 0, locals := 0 } : Room) (va_Pc [.ref ae, .int (nI k)] (hB l D cy ad b μ P [])) (hQ b (fun rv H => rv = some (.ref v) ∧ hW D cy ad b μ P [] H)) 0 0 (hA b) := by
  refine va_MetF (cc := cX10_elementAt) (maxL := 2) (ret := (some (.object "java/lang/Object"))) (by decide +kernel) rfl ?_
  intro p e s m args below meth c s₁ B hml0 hv
  obtain ⟨rfl, E, hM⟩ := hv
  obtain ⟨hx, hb, hml, hown, hlocks, hr⟩ := (gF_of B hml0 : gF p s m meth c cX10_elementAt RX10 2 (some (.object "java/lang/Object")))
  have hS : va_S (hA b) s.heap s.heap [] := va_S.rf
  have hl := lv_entry ([.ref ae, .int (nI k)]) (n := 2) (Nat.le_of_ble_eq_true rfl)
  rw [lg_entry_eq]
  generalize (lg_sl ([.ref ae, .int (nI k)]) ++ List.replicate (2 - (lg_sl ([.ref ae, .int (nI k)])).length) Slot.unset).toArray = ls at hl ⊢
  have hl : lv_has ls 2 [(0, .ref ae), (1, .int (nI k))] := hl
  refine lv_aload_n hx hb dX10_elementAt_0 rfl (lv_at hl 0 rfl) ?_
  refine lv_iload_n hx hb dX10_elementAt_1 rfl (lv_at hl 1 rfl) ?_
  refine h_aald hx hb E hM (hp_m hea) (i := nI k) (x_in hk hn) (v := .ref v) (x_rf (by omega) hg) dX10_elementAt_2 ?_
  exact h_aret hx hb hr (Or.inl ⟨_, rfl⟩) hlocks (Nat.le_of_ble_eq_true rfl) (Nat.le_of_ble_eq_true rfl) ⟨rfl, hM⟩ hS dX10_elementAt_3
theorem xs_X10_elementAt : gYS yX10_elementAt cX10_elementAt 2 (some (.object "java/lang/Object")) 2 := ⟨kw_1457, kw_80, kw_1456, ⟨by decide +kernel, by decide +kernel⟩, by decide +kernel⟩
theorem dX10_pollFirst_0 : decode cX10_pollFirst 0 = .ok (.aload_n 0, 1) := by decide +kernel
theorem dX10_pollFirst_1 : decode cX10_pollFirst 1 = .ok (.getfield 3, 3) := by decide +kernel
theorem dX10_pollFirst_4 : decode cX10_pollFirst 4 = .ok (.dup, 1) := by decide +kernel
theorem dX10_pollFirst_5 : decode cX10_pollFirst 5 = .ok (.astore_n 1, 1) := by decide +kernel
theorem dX10_pollFirst_6 : decode cX10_pollFirst 6 = .ok (.aload_n 0, 1) := by decide +kernel
theorem dX10_pollFirst_7 : decode cX10_pollFirst 7 = .ok (.getfield 24, 3) := by decide +kernel
theorem dX10_pollFirst_10 : decode cX10_pollFirst 10 = .ok (.dup, 1) := by decide +kernel
theorem dX10_pollFirst_11 : decode cX10_pollFirst 11 = .ok (.istore_n 2, 1) := by decide +kernel
theorem dX10_pollFirst_12 : decode cX10_pollFirst 12 = .ok (.invokestatic 103, 3) := by decide +kernel
theorem dX10_pollFirst_15 : decode cX10_pollFirst 15 = .ok (.astore_n 3, 1) := by decide +kernel
theorem dX10_pollFirst_16 : decode cX10_pollFirst 16 = .ok (.aload_n 3, 1) := by decide +kernel
theorem dX10_pollFirst_17 : decode cX10_pollFirst 17 = .ok (.ifnull 17, 3) := by decide +kernel
theorem dX10_pollFirst_20 : decode cX10_pollFirst 20 = .ok (.aload_n 1, 1) := by decide +kernel
theorem dX10_pollFirst_21 : decode cX10_pollFirst 21 = .ok (.iload_n 2, 1) := by decide +kernel
theorem dX10_pollFirst_22 : decode cX10_pollFirst 22 = .ok (.aconst_null, 1) := by decide +kernel
theorem dX10_pollFirst_23 : decode cX10_pollFirst 23 = .ok (.aastore, 1) := by decide +kernel
theorem dX10_pollFirst_24 : decode cX10_pollFirst 24 = .ok (.aload_n 0, 1) := by decide +kernel
theorem dX10_pollFirst_25 : decode cX10_pollFirst 25 = .ok (.iload_n 2, 1) := by decide +kernel
theorem dX10_pollFirst_26 : decode cX10_pollFirst 26 = .ok (.aload_n 1, 1) := by decide +kernel
theorem dX10_pollFirst_27 : decode cX10_pollFirst 27 = .ok (.arraylength, 1) := by decide +kernel
theorem dX10_pollFirst_28 : decode cX10_pollFirst 28 = .ok (.invokestatic 74, 3) := by decide +kernel
theorem dX10_pollFirst_31 : decode cX10_pollFirst 31 = .ok (.putfield 24, 3) := by decide +kernel
theorem dX10_pollFirst_34 : decode cX10_pollFirst 34 = .ok (.aload_n 3, 1) := by decide +kernel
theorem dX10_pollFirst_35 : decode cX10_pollFirst 35 = .ok (.areturn, 1) := by decide +kernel
set_option maxHeartbeats 4000000 in
set_option maxRecDepth 100000 in
theorem c_dqpoll {l : Launch} {D : va_G} {cy : Nat → ClassId} {ad : Nat → Nat} {b : Nat} {μ : gM} {P : va_W} {a ae h t : Nat} {q : Nat → Nat} (hht : h < t) (ht : t < 17) : Met l yX10_pollFirst [.code yX10_pollFirst cX10_pollFirst 4 (some (.object "java/lang/Object"))] ({ frames := 1, cells := 0, slots := 0, locals := 21 } : Room) (va_Pc [.ref a] (hB l D cy ad b μ P [(a, .inr (14, [.ref ae, .int (nI h), .int (nI t)])), (ae, .inl (cy 4, 17, .inr (.inr (.inr (.inr (hdg ad h t q))))))])) (hQ b (fun rv H => rv = some (.ref (ad (200 + (128 + q h)))) ∧ hW D cy ad b μ P (hdq cy ad a ae (h + 1) t q) H)) 0 0 (hA b) := by
  refine va_MetF (cc := cX10_pollFirst) (maxL := 4) (ret := (some (.object "java/lang/Object"))) (by decide +kernel) rfl ?_
  intro p e s m args below meth c s₁ B hml0 hv
  obtain ⟨rfl, E, hM⟩ := hv
  obtain ⟨hx, hb, hml, hown, hlocks, hr⟩ := (gF_of B hml0 : gF p s m meth c cX10_pollFirst RX10 4 (some (.object "java/lang/Object")))
  have hS : va_S (hA b) s.heap s.heap [] := va_S.rf
  have hl := lv_entry ([.ref a]) (n := 4) (Nat.le_of_ble_eq_true rfl)
  rw [lg_entry_eq]
  generalize (lg_sl ([.ref a]) ++ List.replicate (4 - (lg_sl ([.ref a])).length) Slot.unset).toArray = ls at hl ⊢
  have hl : lv_has ls 4 [(0, .ref a)] := hl
  refine lv_aload_n hx hb dX10_pollFirst_0 rfl (lv_at hl 0 rfl) ?_
  refine h_get hx hb hown E hM (ht_m (List.mem_of_getElem? (i := 0) rfl)) gC_X10 0 (by decide) (v := .ref ae) rfl kw_1396 dX10_pollFirst_1 ?_
  refine lv_dup hx hb dX10_pollFirst_4 rfl ?_
  refine lv_astore_n (lv' := [(1, .ref ae), (0, .ref a)]) hx hb dX10_pollFirst_5 rfl hl (by decide) rfl (fun ls hl => ?_)
  refine lv_aload_n hx hb dX10_pollFirst_6 rfl (lv_at hl 1 rfl) ?_
  refine h_get hx hb hown E hM (ht_m (List.mem_of_getElem? (i := 0) rfl)) gC_X10 1 (by decide) (v := .int (nI h)) rfl kw_1397 dX10_pollFirst_7 ?_
  refine lv_dup hx hb dX10_pollFirst_10 rfl ?_
  refine lv_istore_n (lv' := [(2, .int (nI h)), (1, .ref ae), (0, .ref a)]) hx hb dX10_pollFirst_11 rfl hl (by decide) rfl (fun ls hl => ?_)
  replace hM := hW.right (X := [(a, .inr (14, [.ref ae, .int (nI h), .int (nI t)])), (ae, .inl (cy 4, 17, .inr (.inr (.inr (.inr (hdg ad h t q))))))]) (T := []) hM
  refine h_callS (As := [.ref ae, .int (nI h)]) (rest := []) hx hb (hml.trans hl.1.symm) hown E hM hS xs_X10_elementAt kw_1455 (c_elat (List.mem_append_right _ (List.mem_of_getElem? (i := 1) rfl)) (by omega) (by decide) (hdg_at (Nat.le_refl h) hht)) rfl rfl (Nat.le_of_ble_eq_true rfl) ⟨(Nat.le_of_ble_eq_true rfl), (Nat.le_of_ble_eq_true rfl)⟩ ⟨(Nat.le_of_ble_eq_true rfl), (Nat.le_of_ble_eq_true rfl)⟩ dX10_pollFirst_12 (fun rv H locs hZ hS => ?_)
  obtain ⟨rfl, hM⟩ := hZ
  replace hM := hW.left (X := [(a, .inr (14, [.ref ae, .int (nI h), .int (nI t)])), (ae, .inl (cy 4, 17, .inr (.inr (.inr (.inr (hdg ad h t q))))))]) (T := []) hM
  replace hM : hW D cy ad b μ P [(a, .inr (14, [.ref ae, .int (nI h), .int (nI t)])), (ae, .inl (cy 4, 17, .inr (.inr (.inr (.inr (hdg ad h t q))))))] H := hM
  refine lv_astore_n (lv' := [(3, .ref (ad (200 + (128 + q h)))), (2, .int (nI h)), (1, .ref ae), (0, .ref a)]) hx hb dX10_pollFirst_15 rfl hl (by decide) rfl (fun ls hl => ?_)
  refine lv_aload_n hx hb dX10_pollFirst_16 rfl (lv_at hl 0 rfl) ?_
  refine lv_ifnull hx hb dX10_pollFirst_17 ?_
  refine lv_aload_n hx hb dX10_pollFirst_20 rfl (lv_at hl 2 rfl) ?_
  refine lv_iload_n hx hb dX10_pollFirst_21 rfl (lv_at hl 1 rfl) ?_
  refine lv_null hx hb dX10_pollFirst_22 ?_
  refine h_astN (j := 1) hx hb E hM hS rfl (i := nI h) (x_in (by omega) (by decide)) dX10_pollFirst_23 (fun H locs hM hS => ?_)
  rw [hdg_poll (by omega)] at hM
  replace hM : hW D cy ad b μ P [(a, .inr (14, [.ref ae, .int (nI h), .int (nI t)])), (ae, .inl (cy 4, 17, .inr (.inr (.inr (.inr (hdg ad (h + 1) t q))))))] H := hM
  refine lv_aload_n hx hb dX10_pollFirst_24 rfl (lv_at hl 3 rfl) ?_
  refine lv_iload_n hx hb dX10_pollFirst_25 rfl (lv_at hl 1 rfl) ?_
  refine lv_aload_n hx hb dX10_pollFirst_26 rfl (lv_at hl 2 rfl) ?_
  refine h_alen hx hb E hM 4 (ty := .object "java/lang/Object") (ht_m (List.mem_of_getElem? (i := 1) rfl)) rfl (v := nI 17) rfl dX10_pollFirst_27 ?_
  replace hM := hW.right (X := [(a, .inr (14, [.ref ae, .int (nI h), .int (nI t)])), (ae, .inl (cy 4, 17, .inr (.inr (.inr (.inr (hdg ad (h + 1) t q))))))]) (T := []) hM
  refine h_callS (As := [.int (nI h), .int (nI 17)]) (rest := [.ref a]) hx hb (hml.trans hl.1.symm) hown E hM hS xs_X10_inc kw_1432 (c_inc (by omega) (by decide)) rfl rfl (Nat.le_of_ble_eq_true rfl) ⟨(Nat.le_of_ble_eq_true rfl), (Nat.le_of_ble_eq_true rfl)⟩ ⟨(Nat.le_of_ble_eq_true rfl), (Nat.le_of_ble_eq_true rfl)⟩ dX10_pollFirst_28 (fun rv H locs hZ hS => ?_)
  obtain ⟨rfl, hM⟩ := hZ
  replace hM := hW.left (X := [(a, .inr (14, [.ref ae, .int (nI h), .int (nI t)])), (ae, .inl (cy 4, 17, .inr (.inr (.inr (.inr (hdg ad (h + 1) t q))))))]) (T := []) hM
  replace hM : hW D cy ad b μ P [(a, .inr (14, [.ref ae, .int (nI h), .int (nI t)])), (ae, .inl (cy 4, 17, .inr (.inr (.inr (.inr (hdg ad (h + 1) t q))))))] H := hM
  refine h_put (j := 0) hx hb hown E hM hS rfl gC_X10 1 (by decide) rfl (tyX10_ok 1 (by decide)) rfl rfl kw_1397 (Nat.le_of_ble_eq_true rfl) dX10_pollFirst_31 (fun H locs hM hS => ?_)
  replace hM : hW D cy ad b μ P [(a, .inr (14, [.ref ae, .int (nI (h + 1)), .int (nI t)])), (ae, .inl (cy 4, 17, .inr (.inr (.inr (.inr (hdg ad (h + 1) t q))))))] H := hM
  refine lv_aload_n hx hb dX10_pollFirst_34 rfl (lv_at hl 0 rfl) ?_
  exact h_aret hx hb hr (Or.inl ⟨_, rfl⟩) hlocks (Nat.le_of_ble_eq_true rfl) (Nat.le_of_ble_eq_true rfl) ⟨rfl, hM⟩ hS dX10_pollFirst_35

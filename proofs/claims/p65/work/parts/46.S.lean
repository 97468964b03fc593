theorem dJ0_coder_7d493_0 : decode cJ0_coder_7d493 0 = .ok (.getstatic 38, 3) := by decide +kernel
theorem dJ0_coder_7d493_3 : decode cJ0_coder_7d493 3 = .ok (.ifCond .eq 10, 3) := by decide +kernel
theorem dJ0_coder_7d493_6 : decode cJ0_coder_7d493 6 = .ok (.aload_n 0, 1) := by decide +kernel
theorem dJ0_coder_7d493_7 : decode cJ0_coder_7d493 7 = .ok (.getfield 15, 3) := by decide +kernel
theorem dJ0_coder_7d493_10 : decode cJ0_coder_7d493 10 = .ok (.goto 4, 3) := by decide +kernel
theorem dJ0_coder_7d493_13 : decode cJ0_coder_7d493 13 = .ok (.iconst 1, 1) := by decide +kernel
theorem dJ0_coder_7d493_14 : decode cJ0_coder_7d493 14 = .ok (.ireturn, 1) := by decide +kernel
set_option maxHeartbeats 4000000 in
set_option maxRecDepth 100000 in
theorem c_scod {l : Launch} {D : va_G} {cy : Nat → ClassId} {ad : Nat → Nat} {b : Nat} {μ : gM} {P : va_W} {sa va : Nat} {S : List Nat} (hs : sSrc cy ad P sa va S) : Met l yJ0_coder_7d493 [.code yJ0_coder_7d493 cJ0_coder_7d493 1 (some .byte)] ({ frames := 0, cells := 0, slots := 0, locals := 0 } : Room) (va_Pc [.ref sa] (hB l D cy ad b μ P [])) (hQ b (fun rv H => rv = some (.int 0) ∧ hW D cy ad b μ P [] H)) 0 0 (hA b) := by
  refine va_MetF (cc := cJ0_coder_7d493) (maxL := 1) (ret := (some .byte)) (by decide +kernel) rfl ?_
  intro p e s m args below meth c s₁ B hml0 hv
  obtain ⟨rfl, E, hM⟩ := hv
  obtain ⟨hx, hb, hml, hown, hlocks, hr⟩ := (gF_of B hml0 : gF p s m meth c cJ0_coder_7d493 RJ0 1 (some .byte))
  have hS : va_S (hA b) s.heap s.heap [] := va_S.rf
  have hl := lv_entry ([.ref sa]) (n := 1) (Nat.le_of_ble_eq_true rfl)
  rw [lg_entry_eq]
  generalize (lg_sl ([.ref sa]) ++ List.replicate (1 - (lg_sl ([.ref sa])).length) Slot.unset).toArray = ls at hl ⊢
  have hl : lv_has ls 1 [(0, .ref sa)] := hl
  refine va_gets (v := .int 1) hx hb E.2.2.2.2.2.2.2.2.2.1 hS hown (E.kw kw_664) (fun _ h9 => h9) dJ0_coder_7d493_0 ?_
  refine lv_if_eq (tgt := 13) hx hb dJ0_coder_7d493_3 (by decide) (fun c1 => ?_) (fun c1 => ?_)
  · exact absurd c1 (by decide)
  · refine lv_aload_n hx hb dJ0_coder_7d493_6 rfl (lv_at hl 0 rfl) ?_
    refine s_cod hx hb hown E hM hS hs kw_775 dJ0_coder_7d493_7 ?_
    refine lv_goto (tgt := 14) hx hb dJ0_coder_7d493_10 (by decide) ?_
    exact h_nret hx hb hr hlocks (Nat.le_of_ble_eq_true rfl) (Nat.le_of_ble_eq_true rfl) rfl ⟨rfl, hM⟩ hS dJ0_coder_7d493_14
theorem xy_J0_coder_7d493 : gYV yJ0_coder_7d493 cJ0_coder_7d493 1 (some .byte) 0 := ⟨kw_663, kw_64, kw_661, kw_662, ⟨by decide +kernel, by decide +kernel⟩, by decide +kernel⟩
theorem dJ0_length_8abf5_0 : decode cJ0_length_8abf5 0 = .ok (.aload_n 0, 1) := by decide +kernel
theorem dJ0_length_8abf5_1 : decode cJ0_length_8abf5 1 = .ok (.getfield 9, 3) := by decide +kernel
theorem dJ0_length_8abf5_4 : decode cJ0_length_8abf5 4 = .ok (.arraylength, 1) := by decide +kernel
theorem dJ0_length_8abf5_5 : decode cJ0_length_8abf5 5 = .ok (.aload_n 0, 1) := by decide +kernel
theorem dJ0_length_8abf5_6 : decode cJ0_length_8abf5 6 = .ok (.invokevirtual 335, 3) := by decide +kernel
theorem dJ0_length_8abf5_9 : decode cJ0_length_8abf5 9 = .ok (.ishr, 1) := by decide +kernel
theorem dJ0_length_8abf5_10 : decode cJ0_length_8abf5 10 = .ok (.ireturn, 1) := by decide +kernel
set_option maxHeartbeats 4000000 in
set_option maxRecDepth 100000 in
theorem c_slen {l : Launch} {D : va_G} {cy : Nat → ClassId} {ad : Nat → Nat} {b : Nat} {μ : gM} {P : va_W} {sa va : Nat} {S : List Nat} (hs : sSrc cy ad P sa va S) : Met l yJ0_length_8abf5 [.code yJ0_length_8abf5 cJ0_length_8abf5 1 (some .int)] ({ frames := 1, cells := 0, slots := 0, locals := 20 } : Room) (va_Pc [.ref sa] (hB l D cy ad b μ P [])) (hQ b (fun rv H => rv = some (.int (nI S.length)) ∧ hW D cy ad b μ P [] H)) 0 0 (hA b) := by
  refine va_MetF (cc := cJ0_length_8abf5) (maxL := 1) (ret := (some .int)) (by decide +kernel) rfl ?_
  intro p e s m args below meth c s₁ B hml0 hv
  obtain ⟨rfl, E, hM⟩ := hv
  obtain ⟨hx, hb, hml, hown, hlocks, hr⟩ := (gF_of B hml0 : gF p s m meth c cJ0_length_8abf5 RJ0 1 (some .int))
  have hS : va_S (hA b) s.heap s.heap [] := va_S.rf
  have hl := lv_entry ([.ref sa]) (n := 1) (Nat.le_of_ble_eq_true rfl)
  rw [lg_entry_eq]
  generalize (lg_sl ([.ref sa]) ++ List.replicate (1 - (lg_sl ([.ref sa])).length) Slot.unset).toArray = ls at hl ⊢
  have hl : lv_has ls 1 [(0, .ref sa)] := hl
  refine lv_aload_n hx hb dJ0_length_8abf5_0 rfl (lv_at hl 0 rfl) ?_
  refine s_val hx hb hown E hM hS hs kw_774 dJ0_length_8abf5_1 ?_
  refine s_len hx hb E hM hS hs dJ0_length_8abf5_4 ?_
  refine lv_aload_n hx hb dJ0_length_8abf5_5 rfl (lv_at hl 0 rfl) ?_
  refine h_callK (As := []) (rest := [.int (nI S.length)]) hx hb (hml.trans hl.1.symm) hown E hM hS hs rfl xy_J0_coder_7d493 kw_660 (c_scod hs) rfl rfl (Nat.le_of_ble_eq_true rfl) ⟨(Nat.le_of_ble_eq_true rfl), (Nat.le_of_ble_eq_true rfl)⟩ ⟨(Nat.le_of_ble_eq_true rfl), (Nat.le_of_ble_eq_true rfl)⟩ dJ0_length_8abf5_6 (fun rv H locs hZ hS => ?_)
  obtain ⟨rfl, hM⟩ := hZ
  refine lv_ishr hx hb dJ0_length_8abf5_9 ?_
  rw [show (nI S.length >>> (0 &&& 31)) = nI S.length from (sb_shr0 _)]
  exact h_iret hx hb hr hlocks (Nat.le_of_ble_eq_true rfl) (Nat.le_of_ble_eq_true rfl) ⟨rfl, hM⟩ hS dJ0_length_8abf5_10
theorem dJ0_isLatin1_aae02_0 : decode cJ0_isLatin1_aae02 0 = .ok (.getstatic 38, 3) := by decide +kernel
theorem dJ0_isLatin1_aae02_3 : decode cJ0_isLatin1_aae02 3 = .ok (.ifCond .eq 14, 3) := by decide +kernel
theorem dJ0_isLatin1_aae02_6 : decode cJ0_isLatin1_aae02 6 = .ok (.aload_n 0, 1) := by decide +kernel
theorem dJ0_isLatin1_aae02_7 : decode cJ0_isLatin1_aae02 7 = .ok (.getfield 15, 3) := by decide +kernel
theorem dJ0_isLatin1_aae02_10 : decode cJ0_isLatin1_aae02 10 = .ok (.ifCond .ne 7, 3) := by decide +kernel
theorem dJ0_isLatin1_aae02_13 : decode cJ0_isLatin1_aae02 13 = .ok (.iconst 1, 1) := by decide +kernel
theorem dJ0_isLatin1_aae02_14 : decode cJ0_isLatin1_aae02 14 = .ok (.goto 4, 3) := by decide +kernel
theorem dJ0_isLatin1_aae02_17 : decode cJ0_isLatin1_aae02 17 = .ok (.iconst 0, 1) := by decide +kernel
theorem dJ0_isLatin1_aae02_18 : decode cJ0_isLatin1_aae02 18 = .ok (.ireturn, 1) := by decide +kernel
set_option maxHeartbeats 4000000 in
set_option maxRecDepth 100000 in
theorem c_slat {l : Launch} {D : va_G} {cy : Nat → ClassId} {ad : Nat → Nat} {b : Nat} {μ : gM} {P : va_W} {sa va : Nat} {S : List Nat} (hs : sSrc cy ad P sa va S) : Met l yJ0_isLatin1_aae02 [.code yJ0_isLatin1_aae02 cJ0_isLatin1_aae02 1 (some .boolean)] ({ frames := 0, cells := 0, slots := 0, locals := 0 } : Room) (va_Pc [.ref sa] (hB l D cy ad b μ P [])) (hQ b (fun rv H => rv = some (.int 1) ∧ hW D cy ad b μ P [] H)) 0 0 (hA b) := by
  refine va_MetF (cc := cJ0_isLatin1_aae02) (maxL := 1) (ret := (some .boolean)) (by decide +kernel) rfl ?_
  intro p e s m args below meth c s₁ B hml0 hv
  obtain ⟨rfl, E, hM⟩ := hv
  obtain ⟨hx, hb, hml, hown, hlocks, hr⟩ := (gF_of B hml0 : gF p s m meth c cJ0_isLatin1_aae02 RJ0 1 (some .boolean))
  have hS : va_S (hA b) s.heap s.heap [] := va_S.rf
  have hl := lv_entry ([.ref sa]) (n := 1) (Nat.le_of_ble_eq_true rfl)
  rw [lg_entry_eq]
  generalize (lg_sl ([.ref sa]) ++ List.replicate (1 - (lg_sl ([.ref sa])).length) Slot.unset).toArray = ls at hl ⊢
  have hl : lv_has ls 1 [(0, .ref sa)] := hl
  refine va_gets (v := .int 1) hx hb E.2.2.2.2.2.2.2.2.2.1 hS hown (E.kw kw_664) (fun _ h9 => h9) dJ0_isLatin1_aae02_0 ?_
  refine lv_if_eq (tgt := 17) hx hb dJ0_isLatin1_aae02_3 (by decide) (fun c1 => ?_) (fun c1 => ?_)
  · exact absurd c1 (by decide)
  · refine lv_aload_n hx hb dJ0_isLatin1_aae02_6 rfl (lv_at hl 0 rfl) ?_
    refine s_cod hx hb hown E hM hS hs kw_775 dJ0_isLatin1_aae02_7 ?_
    refine lv_if_ne (tgt := 17) hx hb dJ0_isLatin1_aae02_10 (by decide) (fun c2 => ?_) (fun c2 => ?_)
    · exact absurd rfl c2
    · refine lv_iconst (v := (1 : Int32)) hx hb dJ0_isLatin1_aae02_13 (by decide) ?_
      refine lv_goto (tgt := 18) hx hb dJ0_isLatin1_aae02_14 (by decide) ?_
      exact h_zret hx hb hr hlocks (Nat.le_of_ble_eq_true rfl) (Nat.le_of_ble_eq_true rfl) rfl ⟨rfl, hM⟩ hS dJ0_isLatin1_aae02_18
theorem dJ5_isLatin1_aae02_0 : decode cJ5_isLatin1_aae02 0 = .ok (.getstatic 18, 3) := by decide +kernel
theorem dJ5_isLatin1_aae02_3 : decode cJ5_isLatin1_aae02 3 = .ok (.ifCond .eq 14, 3) := by decide +kernel
theorem dJ5_isLatin1_aae02_6 : decode cJ5_isLatin1_aae02 6 = .ok (.aload_n 0, 1) := by decide +kernel
theorem dJ5_isLatin1_aae02_7 : decode cJ5_isLatin1_aae02 7 = .ok (.getfield 22, 3) := by decide +kernel
theorem dJ5_isLatin1_aae02_10 : decode cJ5_isLatin1_aae02 10 = .ok (.ifCond .ne 7, 3) := by decide +kernel
theorem dJ5_isLatin1_aae02_13 : decode cJ5_isLatin1_aae02 13 = .ok (.iconst 1, 1) := by decide +kernel
theorem dJ5_isLatin1_aae02_14 : decode cJ5_isLatin1_aae02 14 = .ok (.goto 4, 3) := by decide +kernel
theorem dJ5_isLatin1_aae02_17 : decode cJ5_isLatin1_aae02 17 = .ok (.iconst 0, 1) := by decide +kernel
theorem dJ5_isLatin1_aae02_18 : decode cJ5_isLatin1_aae02 18 = .ok (.ireturn, 1) := by decide +kernel
set_option maxHeartbeats 4000000 in
set_option maxRecDepth 100000 in
theorem c_blat {l : Launch} {D : va_G} {cy : Nat → ClassId} {ad : Nat → Nat} {b : Nat} {μ : gM} {P : va_W} {ba va w : Nat} {ml : Int32} {S : List Nat}  : Met l yJ5_isLatin1_aae02 [.code yJ5_isLatin1_aae02 cJ5_isLatin1_aae02 1 (some .boolean)] ({ frames := 0, cells := 0, slots := 0, locals := 0 } : Room) (va_Pc [.ref ba] (hB l D cy ad b μ P [(ba, .inr (10, [.ref va, .int (0 : Int32), .int ml, .int (nI S.length)])), (va, .inl (cy 2, w, .inl (sby S)))])) (hQ b (fun rv H => rv = some (.int 1) ∧ hW D cy ad b μ P (sB cy ba va w ml S) H)) 0 0 (hA b) := by
  refine va_MetF (cc := cJ5_isLatin1_aae02) (maxL := 1) (ret := (some .boolean)) (by decide +kernel) rfl ?_
  intro p e s m args below meth c s₁ B hml0 hv
  obtain ⟨rfl, E, hM⟩ := hv
  obtain ⟨hx, hb, hml, hown, hlocks, hr⟩ := (gF_of B hml0 : gF p s m meth c cJ5_isLatin1_aae02 RJ5 1 (some .boolean))
  have hS : va_S (hA b) s.heap s.heap [] := va_S.rf
  have hl := lv_entry ([.ref ba]) (n := 1) (Nat.le_of_ble_eq_true rfl)
  rw [lg_entry_eq]
  generalize (lg_sl ([.ref ba]) ++ List.replicate (1 - (lg_sl ([.ref ba])).length) Slot.unset).toArray = ls at hl ⊢
  have hl : lv_has ls 1 [(0, .ref ba)] := hl
  refine va_gets (v := .int 1) hx hb E.2.2.2.2.2.2.2.2.2.1 hS hown (E.kw kw_558) (fun _ h9 => h9) dJ5_isLatin1_aae02_0 ?_
  refine lv_if_eq (tgt := 17) hx hb dJ5_isLatin1_aae02_3 (by decide) (fun c1 => ?_) (fun c1 => ?_)
  · exact absurd c1 (by decide)
  · refine lv_aload_n hx hb dJ5_isLatin1_aae02_6 rfl (lv_at hl 0 rfl) ?_
    refine h_get hx hb hown E hM (ht_m (List.mem_of_getElem? (i := 0) rfl)) gC_J4 1 (by decide) (v := .int (0 : Int32)) rfl kw_568 dJ5_isLatin1_aae02_7 ?_
    refine lv_if_ne (tgt := 17) hx hb dJ5_isLatin1_aae02_10 (by decide) (fun c2 => ?_) (fun c2 => ?_)
    · exact absurd rfl c2
    · refine lv_iconst (v := (1 : Int32)) hx hb dJ5_isLatin1_aae02_13 (by decide) ?_
      refine lv_goto (tgt := 18) hx hb dJ5_isLatin1_aae02_14 (by decide) ?_
      exact h_zret hx hb hr hlocks (Nat.le_of_ble_eq_true rfl) (Nat.le_of_ble_eq_true rfl) rfl ⟨rfl, hM⟩ hS dJ5_isLatin1_aae02_18
theorem dJ5_getValue_6d5f1_0 : decode cJ5_getValue_6d5f1 0 = .ok (.aload_n 0, 1) := by decide +kernel
theorem dJ5_getValue_6d5f1_1 : decode cJ5_getValue_6d5f1 1 = .ok (.getfield 15, 3) := by decide +kernel
theorem dJ5_getValue_6d5f1_4 : decode cJ5_getValue_6d5f1 4 = .ok (.areturn, 1) := by decide +kernel
set_option maxHeartbeats 4000000 in
set_option maxRecDepth 100000 in
theorem c_getv {l : Launch} {D : va_G} {cy : Nat → ClassId} {ad : Nat → Nat} {b : Nat} {μ : gM} {P : va_W} {ba va w : Nat} {ml : Int32} {S : List Nat}  : Met l yJ5_getValue_6d5f1 [.code yJ5_getValue_6d5f1 cJ5_getValue_6d5f1 1 (some (.array .byte))] ({ frames := 0, cells := 0, slots := 0, locals := 0 } : Room) (va_Pc [.ref ba] (hB l D cy ad b μ P [(ba, .inr (10, [.ref va, .int (0 : Int32), .int ml, .int (nI S.length)])), (va, .inl (cy 2, w, .inl (sby S)))])) (hQ b (fun rv H => rv = some (.ref va) ∧ hW D cy ad b μ P (sB cy ba va w ml S) H)) 0 0 (hA b) := by
  refine va_MetF (cc := cJ5_getValue_6d5f1) (maxL := 1) (ret := (some (.array .byte))) (by decide +kernel) rfl ?_
  intro p e s m args below meth c s₁ B hml0 hv
  obtain ⟨rfl, E, hM⟩ := hv
  obtain ⟨hx, hb, hml, hown, hlocks, hr⟩ := (gF_of B hml0 : gF p s m meth c cJ5_getValue_6d5f1 RJ5 1 (some (.array .byte)))
  have hS : va_S (hA b) s.heap s.heap [] := va_S.rf
  have hl := lv_entry ([.ref ba]) (n := 1) (Nat.le_of_ble_eq_true rfl)
  rw [lg_entry_eq]
  generalize (lg_sl ([.ref ba]) ++ List.replicate (1 - (lg_sl ([.ref ba])).length) Slot.unset).toArray = ls at hl ⊢
  have hl : lv_has ls 1 [(0, .ref ba)] := hl
  refine lv_aload_n hx hb dJ5_getValue_6d5f1_0 rfl (lv_at hl 0 rfl) ?_
  refine h_get hx hb hown E hM (ht_m (List.mem_of_getElem? (i := 0) rfl)) gC_J4 0 (by decide) (v := .ref va) rfl kw_567 dJ5_getValue_6d5f1_1 ?_
  exact h_aret hx hb hr (Or.inr ⟨_, rfl⟩) hlocks (Nat.le_of_ble_eq_true rfl) (Nat.le_of_ble_eq_true rfl) ⟨rfl, hM⟩ hS dJ5_getValue_6d5f1_4
theorem dJ5_length_8abf5_0 : decode cJ5_length_8abf5 0 = .ok (.aload_n 0, 1) := by decide +kernel
theorem dJ5_length_8abf5_1 : decode cJ5_length_8abf5 1 = .ok (.getfield 79, 3) := by decide +kernel
theorem dJ5_length_8abf5_4 : decode cJ5_length_8abf5 4 = .ok (.ireturn, 1) := by decide +kernel
set_option maxHeartbeats 4000000 in
set_option maxRecDepth 100000 in
theorem c_blen0 {l : Launch} {D : va_G} {cy : Nat → ClassId} {ad : Nat → Nat} {b : Nat} {μ : gM} {P : va_W} {ba va w : Nat} {ml : Int32} {S : List Nat}  : Met l yJ5_length_8abf5 [.code yJ5_length_8abf5 cJ5_length_8abf5 1 (some .int)] ({ frames := 0, cells := 0, slots := 0, locals := 0 } : Room) (va_Pc [.ref ba] (hB l D cy ad b μ P [(ba, .inr (10, [.ref va, .int (0 : Int32), .int ml, .int (nI S.length)])), (va, .inl (cy 2, w, .inl (sby S)))])) (hQ b (fun rv H => rv = some (.int (nI S.length)) ∧ hW D cy ad b μ P (sB cy ba va w ml S) H)) 0 0 (hA b) := by
  refine va_MetF (cc := cJ5_length_8abf5) (maxL := 1) (ret := (some .int)) (by decide +kernel) rfl ?_
  intro p e s m args below meth c s₁ B hml0 hv
  obtain ⟨rfl, E, hM⟩ := hv
  obtain ⟨hx, hb, hml, hown, hlocks, hr⟩ := (gF_of B hml0 : gF p s m meth c cJ5_length_8abf5 RJ5 1 (some .int))
  have hS : va_S (hA b) s.heap s.heap [] := va_S.rf
  have hl := lv_entry ([.ref ba]) (n := 1) (Nat.le_of_ble_eq_true rfl)
  rw [lg_entry_eq]
  generalize (lg_sl ([.ref ba]) ++ List.replicate (1 - (lg_sl ([.ref ba])).length) Slot.unset).toArray = ls at hl ⊢
  have hl : lv_has ls 1 [(0, .ref ba)] := hl
  refine lv_aload_n hx hb dJ5_length_8abf5_0 rfl (lv_at hl 0 rfl) ?_
  refine h_get hx hb hown E hM (ht_m (List.mem_of_getElem? (i := 0) rfl)) gC_J4 3 (by decide) (v := .int (nI S.length)) rfl kw_570 dJ5_length_8abf5_1 ?_
  exact h_iret hx hb hr hlocks (Nat.le_of_ble_eq_true rfl) (Nat.le_of_ble_eq_true rfl) ⟨rfl, hM⟩ hS dJ5_length_8abf5_4
theorem xp_J5_length_8abf5 : gYP "java/lang/StringBuilder" yJ5_length_8abf5 cJ5_length_8abf5 1 (some .int) 0 := ⟨kw_750, kw_62, kw_744, by decide +kernel, by decide +kernel, kz_745, kz_579⟩
theorem dJ4_length_8abf5_0 : decode cJ4_length_8abf5 0 = .ok (.aload_n 0, 1) := by decide +kernel
theorem dJ4_length_8abf5_1 : decode cJ4_length_8abf5 1 = .ok (.invokespecial 343, 3) := by decide +kernel
theorem dJ4_length_8abf5_4 : decode cJ4_length_8abf5 4 = .ok (.ireturn, 1) := by decide +kernel
set_option maxHeartbeats 4000000 in
set_option maxRecDepth 100000 in
theorem c_blen {l : Launch} {D : va_G} {cy : Nat → ClassId} {ad : Nat → Nat} {b : Nat} {μ : gM} {P : va_W} {ba va w : Nat} {ml : Int32} {S : List Nat}  : Met l yJ4_length_8abf5 [.code yJ4_length_8abf5 cJ4_length_8abf5 1 (some .int)] ({ frames := 1, cells := 0, slots := 0, locals := 20 } : Room) (va_Pc [.ref ba] (hB l D cy ad b μ P [(ba, .inr (10, [.ref va, .int (0 : Int32), .int ml, .int (nI S.length)])), (va, .inl (cy 2, w, .inl (sby S)))])) (hQ b (fun rv H => rv = some (.int (nI S.length)) ∧ hW D cy ad b μ P (sB cy ba va w ml S) H)) 0 0 (hA b) := by
  refine va_MetF (cc := cJ4_length_8abf5) (maxL := 1) (ret := (some .int)) (by decide +kernel) rfl ?_
  intro p e s m args below meth c s₁ B hml0 hv
  obtain ⟨rfl, E, hM⟩ := hv
  obtain ⟨hx, hb, hml, hown, hlocks, hr⟩ := (gF_of B hml0 : gF p s m meth c cJ4_length_8abf5 RJ4 1 (some .int))
  have hS : va_S (hA b) s.heap s.heap [] := va_S.rf
  have hl := lv_entry ([.ref ba]) (n := 1) (Nat.le_of_ble_eq_true rfl)
  rw [lg_entry_eq]
  generalize (lg_sl ([.ref ba]) ++ List.replicate (1 - (lg_sl ([.ref ba])).length) Slot.unset).toArray = ls at hl ⊢
  have hl : lv_has ls 1 [(0, .ref ba)] := hl
  refine lv_aload_n hx hb dJ4_length_8abf5_0 rfl (lv_at hl 0 rfl) ?_
  refine h_callP (As := []) (rest := []) hx hb (hml.trans hl.1.symm) hown E hM hS xp_J5_length_8abf5 kw_749 (c_blen0) (ht_m (List.mem_of_getElem? (i := 0) rfl)) gC_J4.1 rfl rfl (Nat.le_of_ble_eq_true rfl) ⟨(Nat.le_of_ble_eq_true rfl), (Nat.le_of_ble_eq_true rfl)⟩ ⟨(Nat.le_of_ble_eq_true rfl), (Nat.le_of_ble_eq_true rfl)⟩ dJ4_length_8abf5_1 (fun rv H locs hZ hS => ?_)
  obtain ⟨rfl, hM⟩ := hZ
  exact h_iret hx hb hr hlocks (Nat.le_of_ble_eq_true rfl) (Nat.le_of_ble_eq_true rfl) ⟨rfl, hM⟩ hS dJ4_length_8abf5_4
theorem dJ8_newLength_cabcc_0 : decode cJ8_newLength_cabcc 0 = .ok (.iload_n 0, 1) := by decide +kernel
theorem dJ8_newLength_cabcc_1 : decode cJ8_newLength_cabcc 1 = .ok (.iload_n 1, 1) := by decide +kernel
theorem dJ8_newLength_cabcc_2 : decode cJ8_newLength_cabcc 2 = .ok (.iload_n 2, 1) := by decide +kernel
theorem dJ8_newLength_cabcc_3 : decode cJ8_newLength_cabcc 3 = .ok (.invokestatic 194, 3) := by decide +kernel
theorem dJ8_newLength_cabcc_6 : decode cJ8_newLength_cabcc 6 = .ok (.iadd, 1) := by decide +kernel
theorem dJ8_newLength_cabcc_7 : decode cJ8_newLength_cabcc 7 = .ok (.istore_n 3, 1) := by decide +kernel
theorem dJ8_newLength_cabcc_8 : decode cJ8_newLength_cabcc 8 = .ok (.iconst 0, 1) := by decide +kernel
theorem dJ8_newLength_cabcc_9 : decode cJ8_newLength_cabcc 9 = .ok (.iload_n 3, 1) := by decide +kernel
theorem dJ8_newLength_cabcc_10 : decode cJ8_newLength_cabcc 10 = .ok (.if_icmp .ge 11, 3) := by decide +kernel
theorem dJ8_newLength_cabcc_13 : decode cJ8_newLength_cabcc 13 = .ok (.iload_n 3, 1) := by decide +kernel
theorem dJ8_newLength_cabcc_14 : decode cJ8_newLength_cabcc 14 = .ok (.ldc 200, 2) := by decide +kernel
theorem dJ8_newLength_cabcc_16 : decode cJ8_newLength_cabcc 16 = .ok (.if_icmp .gt 5, 3) := by decide +kernel
theorem dJ8_newLength_cabcc_19 : decode cJ8_newLength_cabcc 19 = .ok (.iload_n 3, 1) := by decide +kernel
theorem dJ8_newLength_cabcc_20 : decode cJ8_newLength_cabcc 20 = .ok (.ireturn, 1) := by decide +kernel
theorem dJ8_newLength_cabcc_21 : decode cJ8_newLength_cabcc 21 = .ok (.iload_n 0, 1) := by decide +kernel
theorem dJ8_newLength_cabcc_22 : decode cJ8_newLength_cabcc 22 = .ok (.iload_n 1, 1) := by decide +kernel
theorem dJ8_newLength_cabcc_23 : decode cJ8_newLength_cabcc 23 = .ok (.invokestatic 201, 3) := by decide +kernel
theorem dJ8_newLength_cabcc_26 : decode cJ8_newLength_cabcc 26 = .ok (.ireturn, 1) := by decide +kernel
set_option maxHeartbeats 4000000 in
set_option maxRecDepth 100000 in
theorem c_nlen {l : Launch} {D : va_G} {cy : Nat → ClassId} {ad : Nat → Nat} {b : Nat} {μ : gM} {P : va_W} {w g q : Nat} (hg1 : 0 < g) (hg2 : w + g < 2 ^ 30) (hq2 : w + q < 2 ^ 30) : Met l yJ8_newLength_cabcc [.code yJ8_newLength_cabcc cJ8_newLength_cabcc 4 (some .int)] ({ frames := 1, cells := 0, slots := 0, locals := 24 } : Room) (va_Pc [.int (nI w), .int (nI g), .int (nI q)] (hB l D cy ad b μ P [])) (hQ b (fun rv H => rv = some (.int (nI (w + max g q))) ∧ hW D cy ad b μ P [] H)) 0 0 (hA b) := by
  refine va_MetF (cc := cJ8_newLength_cabcc) (maxL := 4) (ret := (some .int)) (by decide +kernel) rfl ?_
  intro p e s m args below meth c s₁ B hml0 hv
  obtain ⟨rfl, E, hM⟩ := hv
  obtain ⟨hx, hb, hml, hown, hlocks, hr⟩ := (gF_of B hml0 : gF p s m meth c cJ8_newLength_cabcc RJ8 4 (some .int))
  have hS : va_S (hA b) s.heap s.heap [] := va_S.rf
  have hl := lv_entry ([.int (nI w), .int (nI g), .int (nI q)]) (n := 4) (Nat.le_of_ble_eq_true rfl)
  rw [lg_entry_eq]
  generalize (lg_sl ([.int (nI w), .int (nI g), .int (nI q)]) ++ List.replicate (4 - (lg_sl ([.int (nI w), .int (nI g), .int (nI q)])).length) Slot.unset).toArray = ls at hl ⊢
  have hl : lv_has ls 4 [(0, .int (nI w)), (1, .int (nI g)), (2, .int (nI q))] := hl
  refine lv_iload_n hx hb dJ8_newLength_cabcc_0 rfl (lv_at hl 0 rfl) ?_
  refine lv_iload_n hx hb dJ8_newLength_cabcc_1 rfl (lv_at hl 1 rfl) ?_
  refine lv_iload_n hx hb dJ8_newLength_cabcc_2 rfl (lv_at hl 2 rfl) ?_
  refine va_mmax hx hb (hml.trans hl.1.symm) hown (E.kw kw_603) (E.kw kw_604) (E.kw kw_67) (E.kw kw_605) (Nat.le_of_ble_eq_true rfl) (Nat.le_of_ble_eq_true rfl) (Nat.le_of_ble_eq_true rfl) (Nat.le_of_ble_eq_true rfl) dJ8_newLength_cabcc_3 ?_
  rw [show (if nI g < nI q then nI q else nI g) = nI (max g q) from (x_max (by omega) (by omega))]
  refine lv_iadd hx hb dJ8_newLength_cabcc_6 ?_
  rw [show (nI w + nI (max g q)) = nI (w + max g q) from (nI_add _ _)]
  refine lv_istore_n (lv' := [(3, .int (nI (w + max g q))), (0, .int (nI w)), (1, .int (nI g)), (2, .int (nI q))]) hx hb dJ8_newLength_cabcc_7 rfl hl (by decide) rfl (fun ls hl => ?_)
  refine lv_iconst (v := (0 : Int32)) hx hb dJ8_newLength_cabcc_8 (by decide) ?_
  refine lv_iload_n hx hb dJ8_newLength_cabcc_9 rfl (lv_at hl 0 rfl) ?_
  refine lv_icmp_ge (tgt := 21) hx hb dJ8_newLength_cabcc_10 (by decide) (fun c1 => ?_) (fun c1 => ?_)
  · exact absurd c1 (nI_nle (by omega) (by omega))
  · refine lv_iload_n hx hb dJ8_newLength_cabcc_13 rfl (lv_at hl 0 rfl) ?_
    refine lv_ldc hx hb hown (v := (2147483639 : Int32)) (E.kw kw_606) dJ8_newLength_cabcc_14 ?_
    refine lv_icmp_gt (tgt := 21) hx hb dJ8_newLength_cabcc_16 (by decide) (fun c2 => ?_) (fun c2 => ?_)
    · exact absurd c2 (nI_nlt (a := 2147483639) (by omega) (by omega))
    · refine lv_iload_n hx hb dJ8_newLength_cabcc_19 rfl (lv_at hl 0 rfl) ?_
      exact h_iret hx hb hr hlocks (Nat.le_of_ble_eq_true rfl) (Nat.le_of_ble_eq_true rfl) ⟨rfl, hM⟩ hS dJ8_newLength_cabcc_20
theorem xs_J8_newLength_cabcc : gYS yJ8_newLength_cabcc cJ8_newLength_cabcc 4 (some .int) 3 := ⟨kw_602, kw_66, kw_601, ⟨by decide +kernel, by decide +kernel⟩, by decide +kernel⟩
theorem dJ5_newCapacity_0f7a4_0 : decode cJ5_newCapacity_0f7a4 0 = .ok (.aload_n 0, 1) := by decide +kernel
theorem dJ5_newCapacity_0f7a4_1 : decode cJ5_newCapacity_0f7a4 1 = .ok (.getfield 15, 3) := by decide +kernel
theorem dJ5_newCapacity_0f7a4_4 : decode cJ5_newCapacity_0f7a4 4 = .ok (.arraylength, 1) := by decide +kernel
theorem dJ5_newCapacity_0f7a4_5 : decode cJ5_newCapacity_0f7a4 5 = .ok (.istore_n 2, 1) := by decide +kernel
theorem dJ5_newCapacity_0f7a4_6 : decode cJ5_newCapacity_0f7a4 6 = .ok (.iload_n 1, 1) := by decide +kernel
theorem dJ5_newCapacity_0f7a4_7 : decode cJ5_newCapacity_0f7a4 7 = .ok (.aload_n 0, 1) := by decide +kernel
theorem dJ5_newCapacity_0f7a4_8 : decode cJ5_newCapacity_0f7a4 8 = .ok (.getfield 22, 3) := by decide +kernel
theorem dJ5_newCapacity_0f7a4_11 : decode cJ5_newCapacity_0f7a4 11 = .ok (.ishl, 1) := by decide +kernel
theorem dJ5_newCapacity_0f7a4_12 : decode cJ5_newCapacity_0f7a4 12 = .ok (.istore_n 3, 1) := by decide +kernel
theorem dJ5_newCapacity_0f7a4_13 : decode cJ5_newCapacity_0f7a4 13 = .ok (.iload_n 3, 1) := by decide +kernel
theorem dJ5_newCapacity_0f7a4_14 : decode cJ5_newCapacity_0f7a4 14 = .ok (.iload_n 2, 1) := by decide +kernel
theorem dJ5_newCapacity_0f7a4_15 : decode cJ5_newCapacity_0f7a4 15 = .ok (.isub, 1) := by decide +kernel
theorem dJ5_newCapacity_0f7a4_16 : decode cJ5_newCapacity_0f7a4 16 = .ok (.istore 4, 2) := by decide +kernel
theorem dJ5_newCapacity_0f7a4_18 : decode cJ5_newCapacity_0f7a4 18 = .ok (.iload_n 2, 1) := by decide +kernel
theorem dJ5_newCapacity_0f7a4_19 : decode cJ5_newCapacity_0f7a4 19 = .ok (.iload 4, 2) := by decide +kernel
theorem dJ5_newCapacity_0f7a4_21 : decode cJ5_newCapacity_0f7a4 21 = .ok (.iload_n 2, 1) := by decide +kernel
theorem dJ5_newCapacity_0f7a4_22 : decode cJ5_newCapacity_0f7a4 22 = .ok (.iconst 2, 1) := by decide +kernel
theorem dJ5_newCapacity_0f7a4_23 : decode cJ5_newCapacity_0f7a4 23 = .ok (.aload_n 0, 1) := by decide +kernel
theorem dJ5_newCapacity_0f7a4_24 : decode cJ5_newCapacity_0f7a4 24 = .ok (.getfield 22, 3) := by decide +kernel
theorem dJ5_newCapacity_0f7a4_27 : decode cJ5_newCapacity_0f7a4 27 = .ok (.ishl, 1) := by decide +kernel
theorem dJ5_newCapacity_0f7a4_28 : decode cJ5_newCapacity_0f7a4 28 = .ok (.iadd, 1) := by decide +kernel
theorem dJ5_newCapacity_0f7a4_29 : decode cJ5_newCapacity_0f7a4 29 = .ok (.invokestatic 114, 3) := by decide +kernel
theorem dJ5_newCapacity_0f7a4_32 : decode cJ5_newCapacity_0f7a4 32 = .ok (.istore 5, 2) := by decide +kernel
theorem dJ5_newCapacity_0f7a4_34 : decode cJ5_newCapacity_0f7a4 34 = .ok (.iload 5, 2) := by decide +kernel
theorem dJ5_newCapacity_0f7a4_36 : decode cJ5_newCapacity_0f7a4 36 = .ok (.ldc 39, 2) := by decide +kernel
theorem dJ5_newCapacity_0f7a4_38 : decode cJ5_newCapacity_0f7a4 38 = .ok (.if_icmp .ne 13, 3) := by decide +kernel
theorem dJ5_newCapacity_0f7a4_41 : decode cJ5_newCapacity_0f7a4 41 = .ok (.new 120, 3) := by decide +kernel
theorem dJ5_newCapacity_0f7a4_44 : decode cJ5_newCapacity_0f7a4 44 = .ok (.dup, 1) := by decide +kernel
theorem dJ5_newCapacity_0f7a4_45 : decode cJ5_newCapacity_0f7a4 45 = .ok (.ldc 122, 2) := by decide +kernel
theorem dJ5_newCapacity_0f7a4_47 : decode cJ5_newCapacity_0f7a4 47 = .ok (.invokespecial 124, 3) := by decide +kernel
theorem dJ5_newCapacity_0f7a4_50 : decode cJ5_newCapacity_0f7a4 50 = .ok (.athrow, 1) := by decide +kernel
theorem dJ5_newCapacity_0f7a4_51 : decode cJ5_newCapacity_0f7a4 51 = .ok (.iload 5, 2) := by decide +kernel
theorem dJ5_newCapacity_0f7a4_53 : decode cJ5_newCapacity_0f7a4 53 = .ok (.aload_n 0, 1) := by decide +kernel
theorem dJ5_newCapacity_0f7a4_54 : decode cJ5_newCapacity_0f7a4 54 = .ok (.getfield 22, 3) := by decide +kernel
theorem dJ5_newCapacity_0f7a4_57 : decode cJ5_newCapacity_0f7a4 57 = .ok (.ishr, 1) := by decide +kernel
theorem dJ5_newCapacity_0f7a4_58 : decode cJ5_newCapacity_0f7a4 58 = .ok (.ireturn, 1) := by decide +kernel
set_option maxHeartbeats 4000000 in
set_option maxRecDepth 100000 in
theorem c_ncap {l : Launch} {D : va_G} {cy : Nat → ClassId} {ad : Nat → Nat} {b : Nat} {μ : gM} {P : va_W} {ba va w q : Nat} {ml : Int32} {S : List Nat} (hq : w < q) (hq2 : q ≤ 1024) : Met l yJ5_newCapacity_0f7a4 [.code yJ5_newCapacity_0f7a4 cJ5_newCapacity_0f7a4 6 (some .int)] ({ frames := 2, cells := 0, slots := 0, locals := 47 } : Room) (va_Pc [.ref ba, .int (nI q)] (hB l D cy ad b μ P [(ba, .inr (10, [.ref va, .int (0 : Int32), .int ml, .int (nI S.length)])), (va, .inl (cy 2, w, .inl (sby S)))])) (hQ b (fun rv H => rv = some (.int (nI (w + max (q - w) (w + 2)))) ∧ hW D cy ad b μ P (sB cy ba va w ml S) H)) 0 0 (hA b) := by
  refine va_MetF (cc := cJ5_newCapacity_0f7a4) (maxL := 6) (ret := (some .int)) (by decide +kernel) rfl ?_
  intro p e s m args below meth c s₁ B hml0 hv
  obtain ⟨rfl, E, hM⟩ := hv
  obtain ⟨hx, hb, hml, hown, hlocks, hr⟩ := (gF_of B hml0 : gF p s m meth c cJ5_newCapacity_0f7a4 RJ5 6 (some .int))
  have hS : va_S (hA b) s.heap s.heap [] := va_S.rf
  have hl := lv_entry ([.ref ba, .int (nI q)]) (n := 6) (Nat.le_of_ble_eq_true rfl)
  rw [lg_entry_eq]
  generalize (lg_sl ([.ref ba, .int (nI q)]) ++ List.replicate (6 - (lg_sl ([.ref ba, .int (nI q)])).length) Slot.unset).toArray = ls at hl ⊢
  have hl : lv_has ls 6 [(0, .ref ba), (1, .int (nI q))] := hl
  refine lv_aload_n hx hb dJ5_newCapacity_0f7a4_0 rfl (lv_at hl 0 rfl) ?_
  refine h_get hx hb hown E hM (ht_m (List.mem_of_getElem? (i := 0) rfl)) gC_J4 0 (by decide) (v := .ref va) rfl kw_567 dJ5_newCapacity_0f7a4_1 ?_
  refine h_alen hx hb E hM 2 (ty := .byte) (ht_m (List.mem_of_getElem? (i := 1) rfl)) rfl (v := nI w) rfl dJ5_newCapacity_0f7a4_4 ?_
  refine lv_istore_n (lv' := [(2, .int (nI w)), (0, .ref ba), (1, .int (nI q))]) hx hb dJ5_newCapacity_0f7a4_5 rfl hl (by decide) rfl (fun ls hl => ?_)
  refine lv_iload_n hx hb dJ5_newCapacity_0f7a4_6 rfl (lv_at hl 2 rfl) ?_
  refine lv_aload_n hx hb dJ5_newCapacity_0f7a4_7 rfl (lv_at hl 1 rfl) ?_
  refine h_get hx hb hown E hM (ht_m (List.mem_of_getElem? (i := 0) rfl)) gC_J4 1 (by decide) (v := .int (0 : Int32)) rfl kw_568 dJ5_newCapacity_0f7a4_8 ?_
  refine lv_ishl hx hb dJ5_newCapacity_0f7a4_11 ?_
  rw [show (nI q <<< ((0 : Int32) &&& 31)) = nI q from (sb_shl0 _)]
  refine lv_istore_n (lv' := [(3, .int (nI q)), (2, .int (nI w)), (0, .ref ba), (1, .int (nI q))]) hx hb dJ5_newCapacity_0f7a4_12 rfl hl (by decide) rfl (fun ls hl => ?_)
  refine lv_iload_n hx hb dJ5_newCapacity_0f7a4_13 rfl (lv_at hl 0 rfl) ?_
  refine lv_iload_n hx hb dJ5_newCapacity_0f7a4_14 rfl (lv_at hl 1 rfl) ?_
  refine lv_isub hx hb dJ5_newCapacity_0f7a4_15 ?_
  rw [show (nI q - nI w) = nI (q - w) from (x_sub (by omega))]
  refine lv_istore (lv' := [(4, .int (nI (q - w))), (3, .int (nI q)), (2, .int (nI w)), (0, .ref ba), (1, .int (nI q))]) hx hb dJ5_newCapacity_0f7a4_16 hl (by decide) rfl (fun ls hl => ?_)
  refine lv_iload_n hx hb dJ5_newCapacity_0f7a4_18 rfl (lv_at hl 2 rfl) ?_
  refine lv_iload hx hb dJ5_newCapacity_0f7a4_19 (lv_at hl 0 rfl) ?_
  refine lv_iload_n hx hb dJ5_newCapacity_0f7a4_21 rfl (lv_at hl 2 rfl) ?_
  refine lv_iconst (v := (2 : Int32)) hx hb dJ5_newCapacity_0f7a4_22 (by decide) ?_
  refine lv_aload_n hx hb dJ5_newCapacity_0f7a4_23 rfl (lv_at hl 3 rfl) ?_
  refine h_get hx hb hown E hM (ht_m (List.mem_of_getElem? (i := 0) rfl)) gC_J4 1 (by decide) (v := .int (0 : Int32)) rfl kw_568 dJ5_newCapacity_0f7a4_24 ?_
  refine lv_ishl hx hb dJ5_newCapacity_0f7a4_27 ?_
  rw [show ((2 : Int32) <<< ((0 : Int32) &&& 31)) = (2 : Int32) from (sb_shl0 _)]
  refine lv_iadd hx hb dJ5_newCapacity_0f7a4_28 ?_
  rw [show (nI w + (2 : Int32)) = nI (w + 2) from (nI_add w 2)]
  replace hM := hW.right (X := [(ba, .inr (10, [.ref va, .int (0 : Int32), .int ml, .int (nI S.length)])), (va, .inl (cy 2, w, .inl (sby S)))]) (T := []) hM
  refine h_callS (As := [.int (nI w), .int (nI (q - w)), .int (nI (w + 2))]) (rest := []) hx hb (hml.trans hl.1.symm) hown E hM hS xs_J8_newLength_cabcc kw_600 (c_nlen (by omega) (by omega) (by omega)) rfl rfl (Nat.le_of_ble_eq_true rfl) ⟨(Nat.le_of_ble_eq_true rfl), (Nat.le_of_ble_eq_true rfl)⟩ ⟨(Nat.le_of_ble_eq_true rfl), (Nat.le_of_ble_eq_true rfl)⟩ dJ5_newCapacity_0f7a4_29 (fun rv H locs hZ hS => ?_)
  obtain ⟨rfl, hM⟩ := hZ
  replace hM := hW.left (X := [(ba, .inr (10, [.ref va, .int (0 : Int32), .int ml, .int (nI S.length)])), (va, .inl (cy 2, w, .inl (sby S)))]) (T := []) hM
  replace hM : hW D cy ad b μ P [(ba, .inr (10, [.ref va, .int (0 : Int32), .int ml, .int (nI S.length)])), (va, .inl (cy 2, w, .inl (sby S)))] H := hM
  refine lv_istore (lv' := [(5, .int (nI (w + max (q - w) (w + 2)))), (4, .int (nI (q - w))), (3, .int (nI q)), (2, .int (nI w)), (0, .ref ba), (1, .int (nI q))]) hx hb dJ5_newCapacity_0f7a4_32 hl (by decide) rfl (fun ls hl => ?_)
  refine lv_iload hx hb dJ5_newCapacity_0f7a4_34 (lv_at hl 0 rfl) ?_
  refine lv_ldc hx hb hown (v := (2147483647 : Int32)) (E.kw kw_610) dJ5_newCapacity_0f7a4_36 ?_
  refine lv_icmp_ne (tgt := 51) hx hb dJ5_newCapacity_0f7a4_38 (by decide) (fun c1 => ?_) (fun c1 => ?_)
  · refine lv_iload hx hb dJ5_newCapacity_0f7a4_51 (lv_at hl 0 rfl) ?_
    refine lv_aload_n hx hb dJ5_newCapacity_0f7a4_53 rfl (lv_at hl 4 rfl) ?_
    refine h_get hx hb hown E hM (ht_m (List.mem_of_getElem? (i := 0) rfl)) gC_J4 1 (by decide) (v := .int (0 : Int32)) rfl kw_568 dJ5_newCapacity_0f7a4_54 ?_
    refine lv_ishr hx hb dJ5_newCapacity_0f7a4_57 ?_
    rw [show (nI (w + max (q - w) (w + 2)) >>> ((0 : Int32) &&& 31)) = nI (w + max (q - w) (w + 2)) from (sb_shr0 _)]
    exact h_iret hx hb hr hlocks (Nat.le_of_ble_eq_true rfl) (Nat.le_of_ble_eq_true rfl) ⟨rfl, hM⟩ hS dJ5_newCapacity_0f7a4_58
  · exact absurd c1 (fun z => by have := (nI_eq (b := 2147483647) (by omega) (by omega)).mp z; omega)
theorem dJ7_copyOf_9075b_0 : decode cJ7_copyOf_9075b 0 = .ok (.iload_n 1, 1) := by decide +kernel
theorem dJ7_copyOf_9075b_1 : decode cJ7_copyOf_9075b 1 = .ok (.aload_n 0, 1) := by decide +kernel
theorem dJ7_copyOf_9075b_2 : decode cJ7_copyOf_9075b 2 = .ok (.arraylength, 1) := by decide +kernel
theorem dJ7_copyOf_9075b_3 : decode cJ7_copyOf_9075b 3 = .ok (.if_icmp .ne 11, 3) := by decide +kernel
theorem dJ7_copyOf_9075b_6 : decode cJ7_copyOf_9075b 6 = .ok (.aload_n 0, 1) := by decide +kernel
theorem dJ7_copyOf_9075b_7 : decode cJ7_copyOf_9075b 7 = .ok (.invokevirtual 310, 3) := by decide +kernel
theorem dJ7_copyOf_9075b_10 : decode cJ7_copyOf_9075b 10 = .ok (.checkcast 311, 3) := by decide +kernel
theorem dJ7_copyOf_9075b_13 : decode cJ7_copyOf_9075b 13 = .ok (.areturn, 1) := by decide +kernel
theorem dJ7_copyOf_9075b_14 : decode cJ7_copyOf_9075b 14 = .ok (.iload_n 1, 1) := by decide +kernel
theorem dJ7_copyOf_9075b_15 : decode cJ7_copyOf_9075b 15 = .ok (.newarray .byte, 2) := by decide +kernel
theorem dJ7_copyOf_9075b_17 : decode cJ7_copyOf_9075b 17 = .ok (.astore_n 2, 1) := by decide +kernel
theorem dJ7_copyOf_9075b_18 : decode cJ7_copyOf_9075b 18 = .ok (.aload_n 0, 1) := by decide +kernel
theorem dJ7_copyOf_9075b_19 : decode cJ7_copyOf_9075b 19 = .ok (.iconst 0, 1) := by decide +kernel
theorem dJ7_copyOf_9075b_20 : decode cJ7_copyOf_9075b 20 = .ok (.aload_n 2, 1) := by decide +kernel
theorem dJ7_copyOf_9075b_21 : decode cJ7_copyOf_9075b 21 = .ok (.iconst 0, 1) := by decide +kernel
theorem dJ7_copyOf_9075b_22 : decode cJ7_copyOf_9075b 22 = .ok (.aload_n 0, 1) := by decide +kernel
theorem dJ7_copyOf_9075b_23 : decode cJ7_copyOf_9075b 23 = .ok (.arraylength, 1) := by decide +kernel
theorem dJ7_copyOf_9075b_24 : decode cJ7_copyOf_9075b 24 = .ok (.iload_n 1, 1) := by decide +kernel
theorem dJ7_copyOf_9075b_25 : decode cJ7_copyOf_9075b 25 = .ok (.invokestatic 304, 3) := by decide +kernel
theorem dJ7_copyOf_9075b_28 : decode cJ7_copyOf_9075b 28 = .ok (.invokestatic 150, 3) := by decide +kernel
theorem dJ7_copyOf_9075b_31 : decode cJ7_copyOf_9075b 31 = .ok (.aload_n 2, 1) := by decide +kernel
theorem dJ7_copyOf_9075b_32 : decode cJ7_copyOf_9075b 32 = .ok (.areturn, 1) := by decide +kernel
set_option maxHeartbeats 4000000 in
set_option maxRecDepth 100000 in
theorem c_cpOf {l : Launch} {D : va_G} {cy : Nat → ClassId} {ad : Nat → Nat} {b : Nat} {μ : gM} {P : va_W} {va w N : Nat} {S : List Nat} (hmN : w < N) (hN : N ≤ 2056) (hSm : S.length ≤ w) : Met l yJ7_copyOf_9075b [.code yJ7_copyOf_9075b cJ7_copyOf_9075b 3 (some (.array .byte))] ({ frames := 1, cells := 1, slots := 2056, locals := 40 } : Room) (va_Pc [.ref va, .int (nI N)] (hB l D cy ad b μ P [(va, .inl (cy 2, w, .inl (sby S)))])) (hQ b (fun rv H => ∃ a, rv = some (.ref a) ∧ hW D cy ad b μ P [(va, .inl (cy 2, w, .inl (sby S))), (a, .inl (cy 2, N, .inl (sby S)))] H)) 1 2056 (hA b) := by
  refine va_MetF (cc := cJ7_copyOf_9075b) (maxL := 3) (ret := (some (.array .byte))) (by decide +kernel) rfl ?_
  intro p e s m args below meth c s₁ B hml0 hv
  obtain ⟨rfl, E, hM⟩ := hv
  obtain ⟨hx, hb, hml, hown, hlocks, hr⟩ := (gF_of B hml0 : gF p s m meth c cJ7_copyOf_9075b RJ7 3 (some (.array .byte)))
  have hS : va_S (hA b) s.heap s.heap [] := va_S.rf
  have hl := lv_entry ([.ref va, .int (nI N)]) (n := 3) (Nat.le_of_ble_eq_true rfl)
  rw [lg_entry_eq]
  generalize (lg_sl ([.ref va, .int (nI N)]) ++ List.replicate (3 - (lg_sl ([.ref va, .int (nI N)])).length) Slot.unset).toArray = ls at hl ⊢
  have hl : lv_has ls 3 [(0, .ref va), (1, .int (nI N))] := hl
  refine lv_iload_n hx hb dJ7_copyOf_9075b_0 rfl (lv_at hl 1 rfl) ?_
  refine lv_aload_n hx hb dJ7_copyOf_9075b_1 rfl (lv_at hl 0 rfl) ?_
  refine h_alen hx hb E hM 2 (ty := .byte) (ht_m (List.mem_of_getElem? (i := 0) rfl)) rfl (v := nI w) rfl dJ7_copyOf_9075b_2 ?_
  refine lv_icmp_ne (tgt := 14) hx hb dJ7_copyOf_9075b_3 (by decide) (fun c1 => ?_) (fun c1 => ?_)
  · refine lv_iload_n hx hb dJ7_copyOf_9075b_14 rfl (lv_at hl 1 rfl) ?_
    refine h_newY (n := N) hx hb E hM hS hN (Nat.le_of_ble_eq_true rfl) (Nat.le_of_ble_eq_true rfl) dJ7_copyOf_9075b_15 (fun a2 H hM hS => ?_)
    replace hM : hW D cy ad b μ P [(va, .inl (cy 2, w, .inl (sby S))), (a2, .inl (cy 2, N, .inl (fun _ => 0)))] H := hM
    refine lv_astore_n (lv' := [(2, .ref a2), (0, .ref va), (1, .int (nI N))]) hx hb dJ7_copyOf_9075b_17 rfl hl (by decide) rfl (fun ls hl => ?_)
    refine lv_aload_n hx hb dJ7_copyOf_9075b_18 rfl (lv_at hl 1 rfl) ?_
    refine lv_iconst (v := (0 : Int32)) hx hb dJ7_copyOf_9075b_19 (by decide) ?_
    refine lv_aload_n hx hb dJ7_copyOf_9075b_20 rfl (lv_at hl 0 rfl) ?_
    refine lv_iconst (v := (0 : Int32)) hx hb dJ7_copyOf_9075b_21 (by decide) ?_
    refine lv_aload_n hx hb dJ7_copyOf_9075b_22 rfl (lv_at hl 1 rfl) ?_
    refine h_alen hx hb E hM 2 (ty := .byte) (ht_m (List.mem_of_getElem? (i := 0) rfl)) rfl (v := nI w) rfl dJ7_copyOf_9075b_23 ?_
    refine lv_iload_n hx hb dJ7_copyOf_9075b_24 rfl (lv_at hl 2 rfl) ?_
    refine va_mmin hx hb (hml.trans hl.1.symm) hown (E.kw kw_621) (E.kw kw_622) (E.kw kw_67) (E.kw kw_623) (Nat.le_of_ble_eq_true rfl) (Nat.le_of_ble_eq_true rfl) (Nat.le_of_ble_eq_true rfl) (Nat.le_of_ble_eq_true rfl) dJ7_copyOf_9075b_25 ?_
    rw [show (if nI N < nI w then nI N else nI w) = nI w from ((x_min (by omega) (by omega)).trans (congrArg nI (Nat.min_eq_left (by omega))))]
    refine h_cpyT (j := 1) hx hb (hml.trans hl.1.symm) hown E hM hS ⟨kw_624, kw_97, kw_96, kw_69⟩ (ht_m (List.mem_of_getElem? (i := 0) rfl)) rfl (sp := 0) (dp := 0) (n := w) (by omega) (by omega) (by omega) (by omega) (Nat.le_of_ble_eq_true rfl) (Nat.le_of_ble_eq_true rfl) dJ7_copyOf_9075b_28 (fun H locs hM hS => ?_)
    rw [sby_cut hSm] at hM
    replace hM : hW D cy ad b μ P [(va, .inl (cy 2, w, .inl (sby S))), (a2, .inl (cy 2, N, .inl (sby S)))] H := hM
    refine lv_aload_n hx hb dJ7_copyOf_9075b_31 rfl (lv_at hl 0 rfl) ?_
    exact h_aret hx hb hr (Or.inr ⟨_, rfl⟩) hlocks (Nat.le_of_ble_eq_true rfl) (Nat.le_of_ble_eq_true rfl) ⟨_, rfl, hM⟩ hS dJ7_copyOf_9075b_32
  · exact absurd c1 (fun z => by have := (nI_eq (by omega) (by omega)).mp z; omega)
theorem xu_J5_newCapacity_0f7a4 : gYU "java/lang/StringBuilder" yJ5_newCapacity_0f7a4 yJ5_newCapacity_0f7a4 cJ5_newCapacity_0f7a4 6 (some .int) 1 := ⟨kw_599, kw_62, kw_598, ⟨by decide +kernel, by decide +kernel⟩, by decide +kernel, kz_1554, _, _, _, kw_598, kw_599⟩
theorem xs_J7_copyOf_9075b : gYS yJ7_copyOf_9075b cJ7_copyOf_9075b 3 (some (.array .byte)) 2 := ⟨kw_613, kw_68, kw_612, ⟨by decide +kernel, by decide +kernel⟩, by decide +kernel⟩
theorem dJ5_ensureCapacityInternal_d00df_0 : decode cJ5_ensureCapacityInternal_d00df 0 = .ok (.aload_n 0, 1) := by decide +kernel
theorem dJ5_ensureCapacityInternal_d00df_1 : decode cJ5_ensureCapacityInternal_d00df 1 = .ok (.getfield 15, 3) := by decide +kernel
theorem dJ5_ensureCapacityInternal_d00df_4 : decode cJ5_ensureCapacityInternal_d00df 4 = .ok (.arraylength, 1) := by decide +kernel
theorem dJ5_ensureCapacityInternal_d00df_5 : decode cJ5_ensureCapacityInternal_d00df 5 = .ok (.aload_n 0, 1) := by decide +kernel
theorem dJ5_ensureCapacityInternal_d00df_6 : decode cJ5_ensureCapacityInternal_d00df 6 = .ok (.getfield 22, 3) := by decide +kernel
theorem dJ5_ensureCapacityInternal_d00df_9 : decode cJ5_ensureCapacityInternal_d00df 9 = .ok (.ishr, 1) := by decide +kernel
theorem dJ5_ensureCapacityInternal_d00df_10 : decode cJ5_ensureCapacityInternal_d00df 10 = .ok (.istore_n 2, 1) := by decide +kernel
theorem dJ5_ensureCapacityInternal_d00df_11 : decode cJ5_ensureCapacityInternal_d00df 11 = .ok (.iload_n 1, 1) := by decide +kernel
theorem dJ5_ensureCapacityInternal_d00df_12 : decode cJ5_ensureCapacityInternal_d00df 12 = .ok (.iload_n 2, 1) := by decide +kernel
theorem dJ5_ensureCapacityInternal_d00df_13 : decode cJ5_ensureCapacityInternal_d00df 13 = .ok (.isub, 1) := by decide +kernel
theorem dJ5_ensureCapacityInternal_d00df_14 : decode cJ5_ensureCapacityInternal_d00df 14 = .ok (.ifCond .le 24, 3) := by decide +kernel
theorem dJ5_ensureCapacityInternal_d00df_17 : decode cJ5_ensureCapacityInternal_d00df 17 = .ok (.aload_n 0, 1) := by decide +kernel
theorem dJ5_ensureCapacityInternal_d00df_18 : decode cJ5_ensureCapacityInternal_d00df 18 = .ok (.aload_n 0, 1) := by decide +kernel
theorem dJ5_ensureCapacityInternal_d00df_19 : decode cJ5_ensureCapacityInternal_d00df 19 = .ok (.getfield 15, 3) := by decide +kernel
theorem dJ5_ensureCapacityInternal_d00df_22 : decode cJ5_ensureCapacityInternal_d00df 22 = .ok (.aload_n 0, 1) := by decide +kernel
theorem dJ5_ensureCapacityInternal_d00df_23 : decode cJ5_ensureCapacityInternal_d00df 23 = .ok (.iload_n 1, 1) := by decide +kernel
theorem dJ5_ensureCapacityInternal_d00df_24 : decode cJ5_ensureCapacityInternal_d00df 24 = .ok (.invokevirtual 104, 3) := by decide +kernel
theorem dJ5_ensureCapacityInternal_d00df_27 : decode cJ5_ensureCapacityInternal_d00df 27 = .ok (.aload_n 0, 1) := by decide +kernel
theorem dJ5_ensureCapacityInternal_d00df_28 : decode cJ5_ensureCapacityInternal_d00df 28 = .ok (.getfield 22, 3) := by decide +kernel
theorem dJ5_ensureCapacityInternal_d00df_31 : decode cJ5_ensureCapacityInternal_d00df 31 = .ok (.ishl, 1) := by decide +kernel
theorem dJ5_ensureCapacityInternal_d00df_32 : decode cJ5_ensureCapacityInternal_d00df 32 = .ok (.invokestatic 108, 3) := by decide +kernel
theorem dJ5_ensureCapacityInternal_d00df_35 : decode cJ5_ensureCapacityInternal_d00df 35 = .ok (.putfield 15, 3) := by decide +kernel
theorem dJ5_ensureCapacityInternal_d00df_38 : decode cJ5_ensureCapacityInternal_d00df 38 = .ok (.return_, 1) := by decide +kernel
set_option maxHeartbeats 4000000 in
set_option maxRecDepth 100000 in
theorem c_ens1 {l : Launch} {D : va_G} {cy : Nat → ClassId} {ad : Nat → Nat} {b : Nat} {μ : gM} {P : va_W} {ba va w q : Nat} {ml : Int32} {S : List Nat} (hq : w < q) (hq2 : q ≤ 1024) (hSw : S.length ≤ w) : Met l yJ5_ensureCapacityInternal_d00df [.code yJ5_ensureCapacityInternal_d00df cJ5_ensureCapacityInternal_d00df 3 none] ({ frames := 3, cells := 1, slots := 2056, locals := 72 } : Room) (va_Pc [.ref ba, .int (nI q)] (hB l D cy ad b μ P [(ba, .inr (10, [.ref va, .int (0 : Int32), .int ml, .int (nI S.length)])), (va, .inl (cy 2, w, .inl (sby S)))])) (hQ b (fun rv H => ∃ va2 w2 : Nat, rv = none ∧ (q ≤ w2 ∧ w2 ≤ 2056) ∧ hW D cy ad b μ P (sB cy ba va2 w2 ml S) H)) 1 2056 (hA b) := by
  refine va_MetF (cc := cJ5_ensureCapacityInternal_d00df) (maxL := 3) (ret := none) (by decide +kernel) rfl ?_
  intro p e s m args below meth c s₁ B hml0 hv
  obtain ⟨rfl, E, hM⟩ := hv
  obtain ⟨hx, hb, hml, hown, hlocks, hr⟩ := (gF_of B hml0 : gF p s m meth c cJ5_ensureCapacityInternal_d00df RJ5 3 none)
  have hS : va_S (hA b) s.heap s.heap [] := va_S.rf
  have hl := lv_entry ([.ref ba, .int (nI q)]) (n := 3) (Nat.le_of_ble_eq_true rfl)
  rw [lg_entry_eq]
  generalize (lg_sl ([.ref ba, .int (nI q)]) ++ List.replicate (3 - (lg_sl ([.ref ba, .int (nI q)])).length) Slot.unset).toArray = ls at hl ⊢
  have hl : lv_has ls 3 [(0, .ref ba), (1, .int (nI q))] := hl
  refine lv_aload_n hx hb dJ5_ensureCapacityInternal_d00df_0 rfl (lv_at hl 0 rfl) ?_
  refine h_get hx hb hown E hM (ht_m (List.mem_of_getElem? (i := 0) rfl)) gC_J4 0 (by decide) (v := .ref va) rfl kw_567 dJ5_ensureCapacityInternal_d00df_1 ?_
  refine h_alen hx hb E hM 2 (ty := .byte) (ht_m (List.mem_of_getElem? (i := 1) rfl)) rfl (v := nI w) rfl dJ5_ensureCapacityInternal_d00df_4 ?_
  refine lv_aload_n hx hb dJ5_ensureCapacityInternal_d00df_5 rfl (lv_at hl 0 rfl) ?_
  refine h_get hx hb hown E hM (ht_m (List.mem_of_getElem? (i := 0) rfl)) gC_J4 1 (by decide) (v := .int (0 : Int32)) rfl kw_568 dJ5_ensureCapacityInternal_d00df_6 ?_
  refine lv_ishr hx hb dJ5_ensureCapacityInternal_d00df_9 ?_
  rw [show (nI w >>> ((0 : Int32) &&& 31)) = nI w from (sb_shr0 _)]
  refine lv_istore_n (lv' := [(2, .int (nI w)), (0, .ref ba), (1, .int (nI q))]) hx hb dJ5_ensureCapacityInternal_d00df_10 rfl hl (by decide) rfl (fun ls hl => ?_)
  refine lv_iload_n hx hb dJ5_ensureCapacityInternal_d00df_11 rfl (lv_at hl 2 rfl) ?_
  refine lv_iload_n hx hb dJ5_ensureCapacityInternal_d00df_12 rfl (lv_at hl 0 rfl) ?_
  refine lv_isub hx hb dJ5_ensureCapacityInternal_d00df_13 ?_
  refine lv_if_le (tgt := 38) hx hb dJ5_ensureCapacityInternal_d00df_14 (by decide) (fun c1 => ?_) (fun c1 => ?_)
  · exact absurd c1 (x_subgt hq (by omega))
  · refine lv_aload_n hx hb dJ5_ensureCapacityInternal_d00df_17 rfl (lv_at hl 1 rfl) ?_
    refine lv_aload_n hx hb dJ5_ensureCapacityInternal_d00df_18 rfl (lv_at hl 1 rfl) ?_
    refine h_get hx hb hown E hM (ht_m (List.mem_of_getElem? (i := 0) rfl)) gC_J4 0 (by decide) (v := .ref va) rfl kw_567 dJ5_ensureCapacityInternal_d00df_19 ?_
    refine lv_aload_n hx hb dJ5_ensureCapacityInternal_d00df_22 rfl (lv_at hl 1 rfl) ?_
    refine lv_iload_n hx hb dJ5_ensureCapacityInternal_d00df_23 rfl (lv_at hl 2 rfl) ?_
    refine h_callU (As := [.int (nI q)]) (rest := [.ref va, .ref ba]) hx hb (hml.trans hl.1.symm) hown E hM hS xu_J5_newCapacity_0f7a4 kw_596 (va_any rfl (E.x.1 _ (List.mem_of_getElem? (i := 1) rfl))) (c_ncap hq hq2) (ht_m (List.mem_of_getElem? (i := 0) rfl)) gC_J4.1 rfl rfl (Nat.le_of_ble_eq_true rfl) ⟨(Nat.le_of_ble_eq_true rfl), (Nat.le_of_ble_eq_true rfl)⟩ ⟨(Nat.le_of_ble_eq_true rfl), (Nat.le_of_ble_eq_true rfl)⟩ dJ5_ensureCapacityInternal_d00df_24 (fun rv H locs hZ hS => ?_)
    obtain ⟨rfl, hM⟩ := hZ
    refine lv_aload_n hx hb dJ5_ensureCapacityInternal_d00df_27 rfl (lv_at hl 1 rfl) ?_
    refine h_get hx hb hown E hM (ht_m (List.mem_of_getElem? (i := 0) rfl)) gC_J4 1 (by decide) (v := .int (0 : Int32)) rfl kw_568 dJ5_ensureCapacityInternal_d00df_28 ?_
    refine lv_ishl hx hb dJ5_ensureCapacityInternal_d00df_31 ?_
    rw [show (nI (w + max (q - w) (w + 2)) <<< ((0 : Int32) &&& 31)) = nI (w + max (q - w) (w + 2)) from (sb_shl0 _)]
    replace hM := hW.right (X := [(ba, .inr (10, [.ref va, .int (0 : Int32), .int ml, .int (nI S.length)]))]) (T := [(va, .inl (cy 2, w, .inl (sby S)))]) hM
    refine h_callS (As := [.ref va, .int (nI (w + max (q - w) (w + 2)))]) (rest := [.ref ba]) hx hb (hml.trans hl.1.symm) hown E hM hS xs_J7_copyOf_9075b kw_611 (c_cpOf (by omega) (by omega) hSw) rfl rfl (Nat.le_of_ble_eq_true rfl) ⟨(Nat.le_of_ble_eq_true rfl), (Nat.le_of_ble_eq_true rfl)⟩ ⟨(Nat.le_of_ble_eq_true rfl), (Nat.le_of_ble_eq_true rfl)⟩ dJ5_ensureCapacityInternal_d00df_32 (fun rv H locs hZ hS => ?_)
    obtain ⟨a9, rfl, hM⟩ := hZ
    replace hM := hW.left (X := [(ba, .inr (10, [.ref va, .int (0 : Int32), .int ml, .int (nI S.length)]))]) (T := [(va, .inl (cy 2, w, .inl (sby S))), (a9, .inl (cy 2, (w + max (q - w) (w + 2)), .inl (sby S)))]) hM
    replace hM : hW D cy ad b μ P [(ba, .inr (10, [.ref va, .int (0 : Int32), .int ml, .int (nI S.length)])), (va, .inl (cy 2, w, .inl (sby S))), (a9, .inl (cy 2, (w + max (q - w) (w + 2)), .inl (sby S)))] H := hM
    refine h_put (j := 0) hx hb hown E hM hS rfl gC_J4 0 (by decide) rfl (tyJ4_ok 0 (by decide)) rfl rfl kw_567 (Nat.le_of_ble_eq_true rfl) dJ5_ensureCapacityInternal_d00df_35 (fun H locs hM hS => ?_)
    replace hM : hW D cy ad b μ P [(ba, .inr (10, [.ref a9, .int (0 : Int32), .int ml, .int (nI S.length)])), (va, .inl (cy 2, w, .inl (sby S))), (a9, .inl (cy 2, (w + max (q - w) (w + 2)), .inl (sby S)))] H := hM
    exact h_vret hx hb hr hlocks (Nat.le_of_ble_eq_true rfl) (Nat.le_of_ble_eq_true rfl) ⟨_, _, rfl, ⟨by omega, by omega⟩, hW.drop1 (A := [_]) (B := [_]) hM⟩ hS dJ5_ensureCapacityInternal_d00df_38
set_option maxHeartbeats 4000000 in
set_option maxRecDepth 100000 in
theorem c_ens0 {l : Launch} {D : va_G} {cy : Nat → ClassId} {ad : Nat → Nat} {b : Nat} {μ : gM} {P : va_W} {ba va w q : Nat} {ml : Int32} {S : List Nat} (hq : q ≤ w) (hw : w ≤ 2056) : Met l yJ5_ensureCapacityInternal_d00df [.code yJ5_ensureCapacityInternal_d00df cJ5_ensureCapacityInternal_d00df 3 none] ({ frames := 3, cells := 1, slots := 2056, locals := 72 } : Room) (va_Pc [.ref ba, .int (nI q)] (hB l D cy ad b μ P [(ba, .inr (10, [.ref va, .int (0 : Int32), .int ml, .int (nI S.length)])), (va, .inl (cy 2, w, .inl (sby S)))])) (hQ b (fun rv H => ∃ va2 w2 : Nat, rv = none ∧ (q ≤ w2 ∧ w2 ≤ 2056) ∧ hW D cy ad b μ P (sB cy ba va2 w2 ml S) H)) 1 2056 (hA b) := by
  refine va_MetF (cc := cJ5_ensureCapacityInternal_d00df) (maxL := 3) (ret := none) (by decide +kernel) rfl ?_
  intro p e s m args below meth c s₁ B hml0 hv
  obtain ⟨rfl, E, hM⟩ := hv
  obtain ⟨hx, hb, hml, hown, hlocks, hr⟩ := (gF_of B hml0 : gF p s m meth c cJ5_ensureCapacityInternal_d00df RJ5 3 none)
  have hS : va_S (hA b) s.heap s.heap [] := va_S.rf
  have hl := lv_entry ([.ref ba, .int (nI q)]) (n := 3) (Nat.le_of_ble_eq_true rfl)
  rw [lg_entry_eq]
  generalize (lg_sl ([.ref ba, .int (nI q)]) ++ List.replicate (3 - (lg_sl ([.ref ba, .int (nI q)])).length) Slot.unset).toArray = ls at hl ⊢
  have hl : lv_has ls 3 [(0, .ref ba), (1, .int (nI q))] := hl
  refine lv_aload_n hx hb dJ5_ensureCapacityInternal_d00df_0 rfl (lv_at hl 0 rfl) ?_
  refine h_get hx hb hown E hM (ht_m (List.mem_of_getElem? (i := 0) rfl)) gC_J4 0 (by decide) (v := .ref va) rfl kw_567 dJ5_ensureCapacityInternal_d00df_1 ?_
  refine h_alen hx hb E hM 2 (ty := .byte) (ht_m (List.mem_of_getElem? (i := 1) rfl)) rfl (v := nI w) rfl dJ5_ensureCapacityInternal_d00df_4 ?_
  refine lv_aload_n hx hb dJ5_ensureCapacityInternal_d00df_5 rfl (lv_at hl 0 rfl) ?_
  refine h_get hx hb hown E hM (ht_m (List.mem_of_getElem? (i := 0) rfl)) gC_J4 1 (by decide) (v := .int (0 : Int32)) rfl kw_568 dJ5_ensureCapacityInternal_d00df_6 ?_
  refine lv_ishr hx hb dJ5_ensureCapacityInternal_d00df_9 ?_
  rw [show (nI w >>> ((0 : Int32) &&& 31)) = nI w from (sb_shr0 _)]
  refine lv_istore_n (lv' := [(2, .int (nI w)), (0, .ref ba), (1, .int (nI q))]) hx hb dJ5_ensureCapacityInternal_d00df_10 rfl hl (by decide) rfl (fun ls hl => ?_)
  refine lv_iload_n hx hb dJ5_ensureCapacityInternal_d00df_11 rfl (lv_at hl 2 rfl) ?_
  refine lv_iload_n hx hb dJ5_ensureCapacityInternal_d00df_12 rfl (lv_at hl 0 rfl) ?_
  refine lv_isub hx hb dJ5_ensureCapacityInternal_d00df_13 ?_
  refine lv_if_le (tgt := 38) hx hb dJ5_ensureCapacityInternal_d00df_14 (by decide) (fun c1 => ?_) (fun c1 => ?_)
  · exact h_vret hx hb hr hlocks (Nat.le_of_ble_eq_true rfl) (Nat.le_of_ble_eq_true rfl) ⟨_, _, rfl, ⟨hq, hw⟩, hM⟩ hS dJ5_ensureCapacityInternal_d00df_38
  · exact absurd (x_suble hq (by omega)) c1
theorem c_ens {l : Launch} {D : va_G} {cy : Nat → ClassId} {ad : Nat → Nat} {b : Nat} {μ : gM} {P : va_W} {ba va w q : Nat} {ml : Int32} {S : List Nat} (hq2 : q ≤ 1024) (hw : w ≤ 2056) (hSw : S.length ≤ w) : Met l yJ5_ensureCapacityInternal_d00df [.code yJ5_ensureCapacityInternal_d00df cJ5_ensureCapacityInternal_d00df 3 none] ({ frames := 3, cells := 1, slots := 2056, locals := 72 } : Room) (va_Pc [.ref ba, .int (nI q)] (hB l D cy ad b μ P (sB cy ba va w ml S))) (hQ b (fun rv H => ∃ va2 w2 : Nat, rv = none ∧ (q ≤ w2 ∧ w2 ≤ 2056) ∧ hW D cy ad b μ P (sB cy ba va2 w2 ml S) H)) 1 2056 (hA b) := by
  by_cases hq : q ≤ w
  · exact c_ens0 hq hw
  · exact c_ens1 (by omega) hq2 hSw
theorem dJ5_inflateIfNeededFor_a7421_0 : decode cJ5_inflateIfNeededFor_a7421 0 = .ok (.getstatic 18, 3) := by decide +kernel
theorem dJ5_inflateIfNeededFor_a7421_3 : decode cJ5_inflateIfNeededFor_a7421 3 = .ok (.ifCond .eq 18, 3) := by decide +kernel
theorem dJ5_inflateIfNeededFor_a7421_6 : decode cJ5_inflateIfNeededFor_a7421 6 = .ok (.aload_n 0, 1) := by decide +kernel
theorem dJ5_inflateIfNeededFor_a7421_7 : decode cJ5_inflateIfNeededFor_a7421 7 = .ok (.getfield 22, 3) := by decide +kernel
theorem dJ5_inflateIfNeededFor_a7421_10 : decode cJ5_inflateIfNeededFor_a7421 10 = .ok (.aload_n 1, 1) := by decide +kernel
theorem dJ5_inflateIfNeededFor_a7421_11 : decode cJ5_inflateIfNeededFor_a7421 11 = .ok (.invokevirtual 40, 3) := by decide +kernel
theorem dJ5_inflateIfNeededFor_a7421_14 : decode cJ5_inflateIfNeededFor_a7421 14 = .ok (.if_icmp .eq 7, 3) := by decide +kernel
theorem dJ5_inflateIfNeededFor_a7421_17 : decode cJ5_inflateIfNeededFor_a7421 17 = .ok (.aload_n 0, 1) := by decide +kernel
theorem dJ5_inflateIfNeededFor_a7421_18 : decode cJ5_inflateIfNeededFor_a7421 18 = .ok (.invokevirtual 195, 3) := by decide +kernel
theorem dJ5_inflateIfNeededFor_a7421_21 : decode cJ5_inflateIfNeededFor_a7421 21 = .ok (.return_, 1) := by decide +kernel
set_option maxHeartbeats 4000000 in
set_option maxRecDepth 100000 in
theorem c_infl {l : Launch} {D : va_G} {cy : Nat → ClassId} {ad : Nat → Nat} {b : Nat} {μ : gM} {P : va_W} {sa va ba vb w : Nat} {ml : Int32} {S U : List Nat} (hs : sSrc cy ad P sa va S) : Met l yJ5_inflateIfNeededFor_a7421 [.code yJ5_inflateIfNeededFor_a7421 cJ5_inflateIfNeededFor_a7421 2 none] ({ frames := 1, cells := 0, slots := 0, locals := 20 } : Room) (va_Pc [.ref ba, .ref sa] (hB l D cy ad b μ P [(ba, .inr (10, [.ref vb, .int (0 : Int32), .int ml, .int (nI U.length)])), (vb, .inl (cy 2, w, .inl (sby U)))])) (hQ b (fun rv H => rv = none ∧ hW D cy ad b μ P (sB cy ba vb w ml U) H)) 0 0 (hA b) := by
  refine va_MetF (cc := cJ5_inflateIfNeededFor_a7421) (maxL := 2) (ret := none) (by decide +kernel) rfl ?_
  intro p e s m args below meth c s₁ B hml0 hv
  obtain ⟨rfl, E, hM⟩ := hv
  obtain ⟨hx, hb, hml, hown, hlocks, hr⟩ := (gF_of B hml0 : gF p s m meth c cJ5_inflateIfNeededFor_a7421 RJ5 2 none)
  have hS : va_S (hA b) s.heap s.heap [] := va_S.rf
  have hl := lv_entry ([.ref ba, .ref sa]) (n := 2) (Nat.le_of_ble_eq_true rfl)
  rw [lg_entry_eq]
  generalize (lg_sl ([.ref ba, .ref sa]) ++ List.replicate (2 - (lg_sl ([.ref ba, .ref sa])).length) Slot.unset).toArray = ls at hl ⊢
  have hl : lv_has ls 2 [(0, .ref ba), (1, .ref sa)] := hl
  refine va_gets (v := .int 1) hx hb E.2.2.2.2.2.2.2.2.2.1 hS hown (E.kw kw_558) (fun _ h9 => h9) dJ5_inflateIfNeededFor_a7421_0 ?_
  refine lv_if_eq (tgt := 21) hx hb dJ5_inflateIfNeededFor_a7421_3 (by decide) (fun c1 => ?_) (fun c1 => ?_)
  · exact absurd c1 (by decide)
  · refine lv_aload_n hx hb dJ5_inflateIfNeededFor_a7421_6 rfl (lv_at hl 0 rfl) ?_
    refine h_get hx hb hown E hM (ht_m (List.mem_of_getElem? (i := 0) rfl)) gC_J4 1 (by decide) (v := .int (0 : Int32)) rfl kw_568 dJ5_inflateIfNeededFor_a7421_7 ?_
    refine lv_aload_n hx hb dJ5_inflateIfNeededFor_a7421_10 rfl (lv_at hl 1 rfl) ?_
    replace hM := hW.right (X := [(ba, .inr (10, [.ref vb, .int (0 : Int32), .int ml, .int (nI U.length)])), (vb, .inl (cy 2, w, .inl (sby U)))]) (T := []) hM
    refine h_callK (As := []) (rest := [.int (0 : Int32)]) hx hb (hml.trans hl.1.symm) hown E hM hS (hs.app _) rfl xy_J0_coder_7d493 kw_673 (c_scod (hs.app _)) rfl rfl (Nat.le_of_ble_eq_true rfl) ⟨(Nat.le_of_ble_eq_true rfl), (Nat.le_of_ble_eq_true rfl)⟩ ⟨(Nat.le_of_ble_eq_true rfl), (Nat.le_of_ble_eq_true rfl)⟩ dJ5_inflateIfNeededFor_a7421_11 (fun rv H locs hZ hS => ?_)
    obtain ⟨rfl, hM⟩ := hZ
    replace hM := hW.left (X := [(ba, .inr (10, [.ref vb, .int (0 : Int32), .int ml, .int (nI U.length)])), (vb, .inl (cy 2, w, .inl (sby U)))]) (T := []) hM
    replace hM : hW D cy ad b μ P [(ba, .inr (10, [.ref vb, .int (0 : Int32), .int ml, .int (nI U.length)])), (vb, .inl (cy 2, w, .inl (sby U)))] H := hM
    refine lv_icmp_eq (tgt := 21) hx hb dJ5_inflateIfNeededFor_a7421_14 (by decide) (fun c2 => ?_) (fun c2 => ?_)
    · exact h_vret hx hb hr hlocks (Nat.le_of_ble_eq_true rfl) (Nat.le_of_ble_eq_true rfl) ⟨rfl, hM⟩ hS dJ5_inflateIfNeededFor_a7421_21
    · exact absurd rfl c2
theorem dJ0_getBytes_840e7_0 : decode cJ0_getBytes_840e7 0 = .ok (.aload_n 0, 1) := by decide +kernel
theorem dJ0_getBytes_840e7_1 : decode cJ0_getBytes_840e7 1 = .ok (.invokevirtual 335, 3) := by decide +kernel
theorem dJ0_getBytes_840e7_4 : decode cJ0_getBytes_840e7 4 = .ok (.iload_n 3, 1) := by decide +kernel
theorem dJ0_getBytes_840e7_5 : decode cJ0_getBytes_840e7 5 = .ok (.if_icmp .ne 23, 3) := by decide +kernel
theorem dJ0_getBytes_840e7_8 : decode cJ0_getBytes_840e7 8 = .ok (.aload_n 0, 1) := by decide +kernel
theorem dJ0_getBytes_840e7_9 : decode cJ0_getBytes_840e7 9 = .ok (.getfield 9, 3) := by decide +kernel
theorem dJ0_getBytes_840e7_12 : decode cJ0_getBytes_840e7 12 = .ok (.iconst 0, 1) := by decide +kernel
theorem dJ0_getBytes_840e7_13 : decode cJ0_getBytes_840e7 13 = .ok (.aload_n 1, 1) := by decide +kernel
theorem dJ0_getBytes_840e7_14 : decode cJ0_getBytes_840e7 14 = .ok (.iload_n 2, 1) := by decide +kernel
theorem dJ0_getBytes_840e7_15 : decode cJ0_getBytes_840e7 15 = .ok (.iload_n 3, 1) := by decide +kernel
theorem dJ0_getBytes_840e7_16 : decode cJ0_getBytes_840e7 16 = .ok (.ishl, 1) := by decide +kernel
theorem dJ0_getBytes_840e7_17 : decode cJ0_getBytes_840e7 17 = .ok (.aload_n 0, 1) := by decide +kernel
theorem dJ0_getBytes_840e7_18 : decode cJ0_getBytes_840e7 18 = .ok (.getfield 9, 3) := by decide +kernel
theorem dJ0_getBytes_840e7_21 : decode cJ0_getBytes_840e7 21 = .ok (.arraylength, 1) := by decide +kernel
theorem dJ0_getBytes_840e7_22 : decode cJ0_getBytes_840e7 22 = .ok (.invokestatic 212, 3) := by decide +kernel
theorem dJ0_getBytes_840e7_25 : decode cJ0_getBytes_840e7 25 = .ok (.goto 18, 3) := by decide +kernel
theorem dJ0_getBytes_840e7_28 : decode cJ0_getBytes_840e7 28 = .ok (.aload_n 0, 1) := by decide +kernel
theorem dJ0_getBytes_840e7_29 : decode cJ0_getBytes_840e7 29 = .ok (.getfield 9, 3) := by decide +kernel
theorem dJ0_getBytes_840e7_32 : decode cJ0_getBytes_840e7 32 = .ok (.iconst 0, 1) := by decide +kernel
theorem dJ0_getBytes_840e7_33 : decode cJ0_getBytes_840e7 33 = .ok (.aload_n 1, 1) := by decide +kernel
theorem dJ0_getBytes_840e7_34 : decode cJ0_getBytes_840e7 34 = .ok (.iload_n 2, 1) := by decide +kernel
theorem dJ0_getBytes_840e7_35 : decode cJ0_getBytes_840e7 35 = .ok (.aload_n 0, 1) := by decide +kernel
theorem dJ0_getBytes_840e7_36 : decode cJ0_getBytes_840e7 36 = .ok (.getfield 9, 3) := by decide +kernel
theorem dJ0_getBytes_840e7_39 : decode cJ0_getBytes_840e7 39 = .ok (.arraylength, 1) := by decide +kernel
theorem dJ0_getBytes_840e7_40 : decode cJ0_getBytes_840e7 40 = .ok (.invokestatic 106, 3) := by decide +kernel
theorem dJ0_getBytes_840e7_43 : decode cJ0_getBytes_840e7 43 = .ok (.return_, 1) := by decide +kernel
set_option maxHeartbeats 4000000 in
set_option maxRecDepth 100000 in
theorem c_getB {l : Launch} {D : va_G} {cy : Nat → ClassId} {ad : Nat → Nat} {b : Nat} {μ : gM} {P : va_W} {sa va vb w : Nat}  {S U : List Nat} (hs : sSrc cy ad P sa va S) (hw : U.length + S.length ≤ w) (hw2 : w ≤ 2056) : Met l yJ0_getBytes_840e7 [.code yJ0_getBytes_840e7 cJ0_getBytes_840e7 4 none] ({ frames := 1, cells := 0, slots := 0, locals := 40 } : Room) (va_Pc [.ref sa, .ref vb, .int (nI U.length), .int (0 : Int32)] (hB l D cy ad b μ P [(vb, .inl (cy 2, w, .inl (sby U)))])) (hQ b (fun rv H => rv = none ∧ hW D cy ad b μ P [(vb, .inl (cy 2, w, .inl (sby (U ++ S))))] H)) 0 0 (hA b) := by
  refine va_MetF (cc := cJ0_getBytes_840e7) (maxL := 4) (ret := none) (by decide +kernel) rfl ?_
  intro p e s m args below meth c s₁ B hml0 hv
  obtain ⟨rfl, E, hM⟩ := hv
  obtain ⟨hx, hb, hml, hown, hlocks, hr⟩ := (gF_of B hml0 : gF p s m meth c cJ0_getBytes_840e7 RJ0 4 none)
  have hS : va_S (hA b) s.heap s.heap [] := va_S.rf
  have hl := lv_entry ([.ref sa, .ref vb, .int (nI U.length), .int (0 : Int32)]) (n := 4) (Nat.le_of_ble_eq_true rfl)
  rw [lg_entry_eq]
  generalize (lg_sl ([.ref sa, .ref vb, .int (nI U.length), .int (0 : Int32)]) ++ List.replicate (4 - (lg_sl ([.ref sa, .ref vb, .int (nI U.length), .int (0 : Int32)])).length) Slot.unset).toArray = ls at hl ⊢
  have hl : lv_has ls 4 [(0, .ref sa), (1, .ref vb), (2, .int (nI U.length)), (3, .int (0 : Int32))] := hl
  refine lv_aload_n hx hb dJ0_getBytes_840e7_0 rfl (lv_at hl 0 rfl) ?_
  replace hM := hW.right (X := [(vb, .inl (cy 2, w, .inl (sby U)))]) (T := []) hM
  refine h_callK (As := []) (rest := []) hx hb (hml.trans hl.1.symm) hown E hM hS (hs.app _) rfl xy_J0_coder_7d493 kw_660 (c_scod (hs.app _)) rfl rfl (Nat.le_of_ble_eq_true rfl) ⟨(Nat.le_of_ble_eq_true rfl), (Nat.le_of_ble_eq_true rfl)⟩ ⟨(Nat.le_of_ble_eq_true rfl), (Nat.le_of_ble_eq_true rfl)⟩ dJ0_getBytes_840e7_1 (fun rv H locs hZ hS => ?_)
  obtain ⟨rfl, hM⟩ := hZ
  replace hM := hW.left (X := [(vb, .inl (cy 2, w, .inl (sby U)))]) (T := []) hM
  replace hM : hW D cy ad b μ P [(vb, .inl (cy 2, w, .inl (sby U)))] H := hM
  refine lv_iload_n hx hb dJ0_getBytes_840e7_4 rfl (lv_at hl 3 rfl) ?_
  refine lv_icmp_ne (tgt := 28) hx hb dJ0_getBytes_840e7_5 (by decide) (fun c1 => ?_) (fun c1 => ?_)
  · exact absurd rfl c1
  · refine lv_aload_n hx hb dJ0_getBytes_840e7_8 rfl (lv_at hl 0 rfl) ?_
    refine s_val hx hb hown E hM hS hs kw_774 dJ0_getBytes_840e7_9 ?_
    refine lv_iconst (v := (0 : Int32)) hx hb dJ0_getBytes_840e7_12 (by decide) ?_
    refine lv_aload_n hx hb dJ0_getBytes_840e7_13 rfl (lv_at hl 1 rfl) ?_
    refine lv_iload_n hx hb dJ0_getBytes_840e7_14 rfl (lv_at hl 2 rfl) ?_
    refine lv_iload_n hx hb dJ0_getBytes_840e7_15 rfl (lv_at hl 3 rfl) ?_
    refine lv_ishl hx hb dJ0_getBytes_840e7_16 ?_
    rw [show (nI U.length <<< ((0 : Int32) &&& 31)) = nI U.length from (sb_shl0 _)]
    refine lv_aload_n hx hb dJ0_getBytes_840e7_17 rfl (lv_at hl 0 rfl) ?_
    refine s_val hx hb hown E hM hS hs kw_774 dJ0_getBytes_840e7_18 ?_
    refine s_len hx hb E hM hS hs dJ0_getBytes_840e7_21 ?_
    refine h_cpyK (j := 0) hx hb (hml.trans hl.1.symm) hown E hM hS ⟨kw_697, kw_97, kw_96, kw_69⟩ hs (by omega) rfl (dp := U.length) (by omega) (by omega) (Nat.le_of_ble_eq_true rfl) (Nat.le_of_ble_eq_true rfl) dJ0_getBytes_840e7_22 (fun H locs hM hS => ?_)
    rw [sby_app] at hM
    replace hM : hW D cy ad b μ P [(vb, .inl (cy 2, w, .inl (sby (U ++ S))))] H := hM
    refine lv_goto (tgt := 43) hx hb dJ0_getBytes_840e7_25 (by decide) ?_
    exact h_vret hx hb hr hlocks (Nat.le_of_ble_eq_true rfl) (Nat.le_of_ble_eq_true rfl) ⟨rfl, hM⟩ hS dJ0_getBytes_840e7_43
theorem xu_J5_inflateIfNeededFor_a7421 : gYU "java/lang/StringBuilder" yJ5_inflateIfNeededFor_a7421 yJ5_inflateIfNeededFor_a7421 cJ5_inflateIfNeededFor_a7421 2 none 1 := ⟨kw_672, kw_62, kw_671, ⟨by decide +kernel, by decide +kernel⟩, by decide +kernel, kz_1556, _, _, _, kw_671, kw_672⟩
theorem xy_J0_getBytes_840e7 : gYV yJ0_getBytes_840e7 cJ0_getBytes_840e7 4 none 3 := ⟨kw_696, kw_64, kw_694, kw_695, ⟨by decide +kernel, by decide +kernel⟩, by decide +kernel⟩
theorem dJ5_putStringAt_47b60_0 : decode cJ5_putStringAt_47b60 0 = .ok (.aload_n 0, 1) := by decide +kernel
theorem dJ5_putStringAt_47b60_1 : decode cJ5_putStringAt_47b60 1 = .ok (.aload_n 2, 1) := by decide +kernel
theorem dJ5_putStringAt_47b60_2 : decode cJ5_putStringAt_47b60 2 = .ok (.invokevirtual 397, 3) := by decide +kernel
theorem dJ5_putStringAt_47b60_5 : decode cJ5_putStringAt_47b60 5 = .ok (.aload_n 2, 1) := by decide +kernel
theorem dJ5_putStringAt_47b60_6 : decode cJ5_putStringAt_47b60 6 = .ok (.aload_n 0, 1) := by decide +kernel
theorem dJ5_putStringAt_47b60_7 : decode cJ5_putStringAt_47b60 7 = .ok (.getfield 15, 3) := by decide +kernel
theorem dJ5_putStringAt_47b60_10 : decode cJ5_putStringAt_47b60 10 = .ok (.iload_n 1, 1) := by decide +kernel
theorem dJ5_putStringAt_47b60_11 : decode cJ5_putStringAt_47b60 11 = .ok (.aload_n 0, 1) := by decide +kernel
theorem dJ5_putStringAt_47b60_12 : decode cJ5_putStringAt_47b60 12 = .ok (.getfield 22, 3) := by decide +kernel
theorem dJ5_putStringAt_47b60_15 : decode cJ5_putStringAt_47b60 15 = .ok (.invokevirtual 399, 3) := by decide +kernel
theorem dJ5_putStringAt_47b60_18 : decode cJ5_putStringAt_47b60 18 = .ok (.return_, 1) := by decide +kernel
set_option maxHeartbeats 4000000 in
set_option maxRecDepth 100000 in
theorem c_putS {l : Launch} {D : va_G} {cy : Nat → ClassId} {ad : Nat → Nat} {b : Nat} {μ : gM} {P : va_W} {sa va ba vb w : Nat} {ml : Int32} {S U : List Nat} (hs : sSrc cy ad P sa va S) (hw : U.length + S.length ≤ w) (hw2 : w ≤ 2056) : Met l yJ5_putStringAt_47b60 [.code yJ5_putStringAt_47b60 cJ5_putStringAt_47b60 3 none] ({ frames := 2, cells := 0, slots := 0, locals := 63 } : Room) (va_Pc [.ref ba, .int (nI U.length), .ref sa] (hB l D cy ad b μ P [(ba, .inr (10, [.ref vb, .int (0 : Int32), .int ml, .int (nI U.length)])), (vb, .inl (cy 2, w, .inl (sby U)))])) (hQ b (fun rv H => rv = none ∧ hW D cy ad b μ P [(ba, .inr (10, [.ref vb, .int (0 : Int32), .int ml, .int (nI U.length)])), (vb, .inl (cy 2, w, .inl (sby (U ++ S))))] H)) 0 0 (hA b) := by
  refine va_MetF (cc := cJ5_putStringAt_47b60) (maxL := 3) (ret := none) (by decide +kernel) rfl ?_
  intro p e s m args below meth c s₁ B hml0 hv
  obtain ⟨rfl, E, hM⟩ := hv
  obtain ⟨hx, hb, hml, hown, hlocks, hr⟩ := (gF_of B hml0 : gF p s m meth c cJ5_putStringAt_47b60 RJ5 3 none)
  have hS : va_S (hA b) s.heap s.heap [] := va_S.rf
  have hl := lv_entry ([.ref ba, .int (nI U.length), .ref sa]) (n := 3) (Nat.le_of_ble_eq_true rfl)
  rw [lg_entry_eq]
  generalize (lg_sl ([.ref ba, .int (nI U.length), .ref sa]) ++ List.replicate (3 - (lg_sl ([.ref ba, .int (nI U.length), .ref sa])).length) Slot.unset).toArray = ls at hl ⊢
  have hl : lv_has ls 3 [(0, .ref ba), (1, .int (nI U.length)), (2, .ref sa)] := hl
  refine lv_aload_n hx hb dJ5_putStringAt_47b60_0 rfl (lv_at hl 0 rfl) ?_
  refine lv_aload_n hx hb dJ5_putStringAt_47b60_1 rfl (lv_at hl 2 rfl) ?_
  refine h_callU (As := [.ref sa]) (rest := []) hx hb (hml.trans hl.1.symm) hown E hM hS xu_J5_inflateIfNeededFor_a7421 kw_669 (va_any rfl (E.x.1 _ (List.mem_of_getElem? (i := 3) rfl))) (c_infl hs) (ht_m (List.mem_of_getElem? (i := 0) rfl)) gC_J4.1 rfl rfl (Nat.le_of_ble_eq_true rfl) ⟨(Nat.le_of_ble_eq_true rfl), (Nat.le_of_ble_eq_true rfl)⟩ ⟨(Nat.le_of_ble_eq_true rfl), (Nat.le_of_ble_eq_true rfl)⟩ dJ5_putStringAt_47b60_2 (fun rv H locs hZ hS => ?_)
  obtain ⟨rfl, hM⟩ := hZ
  refine lv_aload_n hx hb dJ5_putStringAt_47b60_5 rfl (lv_at hl 2 rfl) ?_
  refine lv_aload_n hx hb dJ5_putStringAt_47b60_6 rfl (lv_at hl 0 rfl) ?_
  refine h_get hx hb hown E hM (ht_m (List.mem_of_getElem? (i := 0) rfl)) gC_J4 0 (by decide) (v := .ref vb) rfl kw_567 dJ5_putStringAt_47b60_7 ?_
  refine lv_iload_n hx hb dJ5_putStringAt_47b60_10 rfl (lv_at hl 1 rfl) ?_
  refine lv_aload_n hx hb dJ5_putStringAt_47b60_11 rfl (lv_at hl 0 rfl) ?_
  refine h_get hx hb hown E hM (ht_m (List.mem_of_getElem? (i := 0) rfl)) gC_J4 1 (by decide) (v := .int (0 : Int32)) rfl kw_568 dJ5_putStringAt_47b60_12 ?_
  replace hM := hW.right (X := [(ba, .inr (10, [.ref vb, .int (0 : Int32), .int ml, .int (nI U.length)]))]) (T := [(vb, .inl (cy 2, w, .inl (sby U)))]) hM
  refine h_callK (As := [.ref vb, .int (nI U.length), .int (0 : Int32)]) (rest := []) hx hb (hml.trans hl.1.symm) hown E hM hS (hs.app _) rfl xy_J0_getBytes_840e7 kw_693 (c_getB (hs.app _) hw hw2) rfl rfl (Nat.le_of_ble_eq_true rfl) ⟨(Nat.le_of_ble_eq_true rfl), (Nat.le_of_ble_eq_true rfl)⟩ ⟨(Nat.le_of_ble_eq_true rfl), (Nat.le_of_ble_eq_true rfl)⟩ dJ5_putStringAt_47b60_15 (fun rv H locs hZ hS => ?_)
  obtain ⟨rfl, hM⟩ := hZ
  replace hM := hW.left (X := [(ba, .inr (10, [.ref vb, .int (0 : Int32), .int ml, .int (nI U.length)]))]) (T := [(vb, .inl (cy 2, w, .inl (sby (U ++ S))))]) hM
  replace hM : hW D cy ad b μ P [(ba, .inr (10, [.ref vb, .int (0 : Int32), .int ml, .int (nI U.length)])), (vb, .inl (cy 2, w, .inl (sby (U ++ S))))] H := hM
  exact h_vret hx hb hr hlocks (Nat.le_of_ble_eq_true rfl) (Nat.le_of_ble_eq_true rfl) ⟨rfl, hM⟩ hS dJ5_putStringAt_47b60_18
theorem xy_J0_length_8abf5 : gYV yJ0_length_8abf5 cJ0_length_8abf5 1 (some .int) 0 := ⟨kw_659, kw_64, kw_657, kw_658, ⟨by decide +kernel, by decide +kernel⟩, by decide +kernel⟩
theorem xu_J5_ensureCapacityInternal_d00df : gYU "java/lang/StringBuilder" yJ5_ensureCapacityInternal_d00df yJ5_ensureCapacityInternal_d00df cJ5_ensureCapacityInternal_d00df 3 none 1 := ⟨kw_595, kw_62, kw_594, ⟨by decide +kernel, by decide +kernel⟩, by decide +kernel, kz_1553, _, _, _, kw_594, kw_595⟩
theorem xu_J5_putStringAt_47b60 : gYU "java/lang/StringBuilder" yJ5_putStringAt_47b60 yJ5_putStringAt_47b60 cJ5_putStringAt_47b60 3 none 2 := ⟨kw_668, kw_62, kw_667, ⟨by decide +kernel, by decide +kernel⟩, by decide +kernel, kz_1555, _, _, _, kw_667, kw_668⟩
theorem dJ5_append_cf1ce_0 : decode cJ5_append_cf1ce 0 = .ok (.aload_n 1, 1) := by decide +kernel
theorem dJ5_append_cf1ce_1 : decode cJ5_append_cf1ce 1 = .ok (.ifnonnull 8, 3) := by decide +kernel
theorem dJ5_append_cf1ce_4 : decode cJ5_append_cf1ce 4 = .ok (.aload_n 0, 1) := by decide +kernel
theorem dJ5_append_cf1ce_5 : decode cJ5_append_cf1ce 5 = .ok (.invokevirtual 204, 3) := by decide +kernel
theorem dJ5_append_cf1ce_8 : decode cJ5_append_cf1ce 8 = .ok (.areturn, 1) := by decide +kernel
theorem dJ5_append_cf1ce_9 : decode cJ5_append_cf1ce 9 = .ok (.aload_n 1, 1) := by decide +kernel
theorem dJ5_append_cf1ce_10 : decode cJ5_append_cf1ce 10 = .ok (.invokevirtual 32, 3) := by decide +kernel
theorem dJ5_append_cf1ce_13 : decode cJ5_append_cf1ce 13 = .ok (.istore_n 2, 1) := by decide +kernel
theorem dJ5_append_cf1ce_14 : decode cJ5_append_cf1ce 14 = .ok (.aload_n 0, 1) := by decide +kernel
theorem dJ5_append_cf1ce_15 : decode cJ5_append_cf1ce 15 = .ok (.aload_n 0, 1) := by decide +kernel
theorem dJ5_append_cf1ce_16 : decode cJ5_append_cf1ce 16 = .ok (.getfield 79, 3) := by decide +kernel
theorem dJ5_append_cf1ce_19 : decode cJ5_append_cf1ce 19 = .ok (.iload_n 2, 1) := by decide +kernel
theorem dJ5_append_cf1ce_20 : decode cJ5_append_cf1ce 20 = .ok (.iadd, 1) := by decide +kernel
theorem dJ5_append_cf1ce_21 : decode cJ5_append_cf1ce 21 = .ok (.invokevirtual 100, 3) := by decide +kernel
theorem dJ5_append_cf1ce_24 : decode cJ5_append_cf1ce 24 = .ok (.aload_n 0, 1) := by decide +kernel
theorem dJ5_append_cf1ce_25 : decode cJ5_append_cf1ce 25 = .ok (.aload_n 0, 1) := by decide +kernel
theorem dJ5_append_cf1ce_26 : decode cJ5_append_cf1ce 26 = .ok (.getfield 79, 3) := by decide +kernel
theorem dJ5_append_cf1ce_29 : decode cJ5_append_cf1ce 29 = .ok (.aload_n 1, 1) := by decide +kernel
theorem dJ5_append_cf1ce_30 : decode cJ5_append_cf1ce 30 = .ok (.invokevirtual 208, 3) := by decide +kernel
theorem dJ5_append_cf1ce_33 : decode cJ5_append_cf1ce 33 = .ok (.aload_n 0, 1) := by decide +kernel
theorem dJ5_append_cf1ce_34 : decode cJ5_append_cf1ce 34 = .ok (.dup, 1) := by decide +kernel
theorem dJ5_append_cf1ce_35 : decode cJ5_append_cf1ce 35 = .ok (.getfield 79, 3) := by decide +kernel
theorem dJ5_append_cf1ce_38 : decode cJ5_append_cf1ce 38 = .ok (.iload_n 2, 1) := by decide +kernel
theorem dJ5_append_cf1ce_39 : decode cJ5_append_cf1ce 39 = .ok (.iadd, 1) := by decide +kernel
theorem dJ5_append_cf1ce_40 : decode cJ5_append_cf1ce 40 = .ok (.putfield 79, 3) := by decide +kernel
theorem dJ5_append_cf1ce_43 : decode cJ5_append_cf1ce 43 = .ok (.aload_n 0, 1) := by decide +kernel
theorem dJ5_append_cf1ce_44 : decode cJ5_append_cf1ce 44 = .ok (.areturn, 1) := by decide +kernel
set_option maxHeartbeats 4000000 in
set_option maxRecDepth 100000 in
theorem c_appA {l : Launch} {D : va_G} {cy : Nat → ClassId} {ad : Nat → Nat} {b : Nat} {μ : gM} {P : va_W} {sa va ba vb w : Nat} {ml : Int32} {S U : List Nat} (hs : sSrc cy ad P sa va S) (hlen : U.length + S.length ≤ 1024) (hUw : U.length ≤ w) (hw2 : w ≤ 2056) : Met l yJ5_append_cf1ce [.code yJ5_append_cf1ce cJ5_append_cf1ce 3 (some (.object "java/lang/AbstractStringBuilder"))] ({ frames := 4, cells := 1, slots := 2056, locals := 94 } : Room) (va_Pc [.ref ba, .ref sa] (hB l D cy ad b μ P [(ba, .inr (10, [.ref vb, .int (0 : Int32), .int ml, .int (nI U.length)])), (vb, .inl (cy 2, w, .inl (sby U)))])) (hQ b (fun rv H => ∃ vb2 w2 : Nat, rv = some (.ref ba) ∧ ((U ++ S).length ≤ w2 ∧ w2 ≤ 2056) ∧ hW D cy ad b μ P (sB cy ba vb2 w2 ml (U ++ S)) H)) 1 2056 (hA b) := by
  refine va_MetF (cc := cJ5_append_cf1ce) (maxL := 3) (ret := (some (.object "java/lang/AbstractStringBuilder"))) (by decide +kernel) rfl ?_
  intro p e s m args below meth c s₁ B hml0 hv
  obtain ⟨rfl, E, hM⟩ := hv
  obtain ⟨hx, hb, hml, hown, hlocks, hr⟩ := (gF_of B hml0 : gF p s m meth c cJ5_append_cf1ce RJ5 3 (some (.object "java/lang/AbstractStringBuilder")))
  have hS : va_S (hA b) s.heap s.heap [] := va_S.rf
  have hl := lv_entry ([.ref ba, .ref sa]) (n := 3) (Nat.le_of_ble_eq_true rfl)
  rw [lg_entry_eq]
  generalize (lg_sl ([.ref ba, .ref sa]) ++ List.replicate (3 - (lg_sl ([.ref ba, .ref sa])).length) Slot.unset).toArray = ls at hl ⊢
  have hl : lv_has ls 3 [(0, .ref ba), (1, .ref sa)] := hl
  refine lv_aload_n hx hb dJ5_append_cf1ce_0 rfl (lv_at hl 1 rfl) ?_
  refine lv_ifnonnull (tgt := 9) hx hb dJ5_append_cf1ce_1 (by decide) ?_
  refine lv_aload_n hx hb dJ5_append_cf1ce_9 rfl (lv_at hl 1 rfl) ?_
  replace hM := hW.right (X := [(ba, .inr (10, [.ref vb, .int (0 : Int32), .int ml, .int (nI U.length)])), (vb, .inl (cy 2, w, .inl (sby U)))]) (T := []) hM
  refine h_callK (As := []) (rest := []) hx hb (hml.trans hl.1.symm) hown E hM hS (hs.app _) rfl xy_J0_length_8abf5 kw_656 (c_slen (hs.app _)) rfl rfl (Nat.le_of_ble_eq_true rfl) ⟨(Nat.le_of_ble_eq_true rfl), (Nat.le_of_ble_eq_true rfl)⟩ ⟨(Nat.le_of_ble_eq_true rfl), (Nat.le_of_ble_eq_true rfl)⟩ dJ5_append_cf1ce_10 (fun rv H locs hZ hS => ?_)
  obtain ⟨rfl, hM⟩ := hZ
  replace hM := hW.left (X := [(ba, .inr (10, [.ref vb, .int (0 : Int32), .int ml, .int (nI U.length)])), (vb, .inl (cy 2, w, .inl (sby U)))]) (T := []) hM
  replace hM : hW D cy ad b μ P [(ba, .inr (10, [.ref vb, .int (0 : Int32), .int ml, .int (nI U.length)])), (vb, .inl (cy 2, w, .inl (sby U)))] H := hM
  refine lv_istore_n (lv' := [(2, .int (nI S.length)), (0, .ref ba), (1, .ref sa)]) hx hb dJ5_append_cf1ce_13 rfl hl (by decide) rfl (fun ls hl => ?_)
  refine lv_aload_n hx hb dJ5_append_cf1ce_14 rfl (lv_at hl 1 rfl) ?_
  refine lv_aload_n hx hb dJ5_append_cf1ce_15 rfl (lv_at hl 1 rfl) ?_
  refine h_get hx hb hown E hM (ht_m (List.mem_of_getElem? (i := 0) rfl)) gC_J4 3 (by decide) (v := .int (nI U.length)) rfl kw_570 dJ5_append_cf1ce_16 ?_
  refine lv_iload_n hx hb dJ5_append_cf1ce_19 rfl (lv_at hl 0 rfl) ?_
  refine lv_iadd hx hb dJ5_append_cf1ce_20 ?_
  rw [show (nI U.length + nI S.length) = nI (U.length + S.length) from (nI_add _ _)]
  refine h_callU (As := [.int (nI (U.length + S.length))]) (rest := []) hx hb (hml.trans hl.1.symm) hown E hM hS xu_J5_ensureCapacityInternal_d00df kw_592 (va_any rfl (E.x.1 _ (List.mem_of_getElem? (i := 0) rfl))) (c_ens hlen hw2 hUw) (ht_m (List.mem_of_getElem? (i := 0) rfl)) gC_J4.1 rfl rfl (Nat.le_of_ble_eq_true rfl) ⟨(Nat.le_of_ble_eq_true rfl), (Nat.le_of_ble_eq_true rfl)⟩ ⟨(Nat.le_of_ble_eq_true rfl), (Nat.le_of_ble_eq_true rfl)⟩ dJ5_append_cf1ce_21 (fun rv H locs hZ hS => ?_)
  obtain ⟨vb2, w2, rfl, ⟨he1, he2⟩, hM⟩ := hZ
  replace hM : hW D cy ad b μ P [(ba, .inr (10, [.ref vb2, .int (0 : Int32), .int ml, .int (nI U.length)])), (vb2, .inl (cy 2, w2, .inl (sby U)))] H := hM
  refine lv_aload_n hx hb dJ5_append_cf1ce_24 rfl (lv_at hl 1 rfl) ?_
  refine lv_aload_n hx hb dJ5_append_cf1ce_25 rfl (lv_at hl 1 rfl) ?_
  refine h_get hx hb hown E hM (ht_m (List.mem_of_getElem? (i := 0) rfl)) gC_J4 3 (by decide) (v := .int (nI U.length)) rfl kw_570 dJ5_append_cf1ce_26 ?_
  refine lv_aload_n hx hb dJ5_append_cf1ce_29 rfl (lv_at hl 2 rfl) ?_
  refine h_callU (As := [.int (nI U.length), .ref sa]) (rest := []) hx hb (hml.trans hl.1.symm) hown E hM hS xu_J5_putStringAt_47b60 kw_665 (va_any rfl (E.x.1 _ (List.mem_of_getElem? (i := 2) rfl))) (c_putS hs he1 he2) (ht_m (List.mem_of_getElem? (i := 0) rfl)) gC_J4.1 rfl rfl (Nat.le_of_ble_eq_true rfl) ⟨(Nat.le_of_ble_eq_true rfl), (Nat.le_of_ble_eq_true rfl)⟩ ⟨(Nat.le_of_ble_eq_true rfl), (Nat.le_of_ble_eq_true rfl)⟩ dJ5_append_cf1ce_30 (fun rv H locs hZ hS => ?_)
  obtain ⟨rfl, hM⟩ := hZ
  replace hM : hW D cy ad b μ P [(ba, .inr (10, [.ref vb2, .int (0 : Int32), .int ml, .int (nI U.length)])), (vb2, .inl (cy 2, w2, .inl (sby (U ++ S))))] H := hM
  refine lv_aload_n hx hb dJ5_append_cf1ce_33 rfl (lv_at hl 1 rfl) ?_
  refine lv_dup hx hb dJ5_append_cf1ce_34 rfl ?_
  refine h_get hx hb hown E hM (ht_m (List.mem_of_getElem? (i := 0) rfl)) gC_J4 3 (by decide) (v := .int (nI U.length)) rfl kw_570 dJ5_append_cf1ce_35 ?_
  refine lv_iload_n hx hb dJ5_append_cf1ce_38 rfl (lv_at hl 0 rfl) ?_
  refine lv_iadd hx hb dJ5_append_cf1ce_39 ?_
  rw [show (nI U.length + nI S.length) = nI (U ++ S).length from ((nI_add _ _).trans (congrArg nI List.length_append.symm))]
  refine h_put (j := 0) hx hb hown E hM hS rfl gC_J4 3 (by decide) rfl (tyJ4_ok 3 (by decide)) rfl rfl kw_570 (Nat.le_of_ble_eq_true rfl) dJ5_append_cf1ce_40 (fun H locs hM hS => ?_)
  replace hM : hW D cy ad b μ P [(ba, .inr (10, [.ref vb2, .int (0 : Int32), .int ml, .int (nI (U ++ S).length)])), (vb2, .inl (cy 2, w2, .inl (sby (U ++ S))))] H := hM
  refine lv_aload_n hx hb dJ5_append_cf1ce_43 rfl (lv_at hl 1 rfl) ?_
  exact h_aret hx hb hr (Or.inl ⟨_, rfl⟩) hlocks (Nat.le_of_ble_eq_true rfl) (Nat.le_of_ble_eq_true rfl) ⟨_, _, rfl, ⟨by rw [List.length_append]; exact he1, he2⟩, hM⟩ hS dJ5_append_cf1ce_44
theorem xp_J5_append_cf1ce : gYP "java/lang/StringBuilder" yJ5_append_cf1ce cJ5_append_cf1ce 3 (some (.object "java/lang/AbstractStringBuilder")) 1 := ⟨kw_587, kw_62, kw_586, by decide +kernel, by decide +kernel, kz_1551, kz_579⟩
theorem dJ4_append_15ec4_0 : decode cJ4_append_15ec4 0 = .ok (.aload_n 0, 1) := by decide +kernel
theorem dJ4_append_15ec4_1 : decode cJ4_append_15ec4 1 = .ok (.aload_n 1, 1) := by decide +kernel
theorem dJ4_append_15ec4_2 : decode cJ4_append_15ec4 2 = .ok (.invokespecial 29, 3) := by decide +kernel
theorem dJ4_append_15ec4_5 : decode cJ4_append_15ec4 5 = .ok (.pop, 1) := by decide +kernel
theorem dJ4_append_15ec4_6 : decode cJ4_append_15ec4 6 = .ok (.aload_n 0, 1) := by decide +kernel
theorem dJ4_append_15ec4_7 : decode cJ4_append_15ec4 7 = .ok (.areturn, 1) := by decide +kernel
set_option maxHeartbeats 4000000 in
set_option maxRecDepth 100000 in
theorem c_appS {l : Launch} {D : va_G} {cy : Nat → ClassId} {ad : Nat → Nat} {b : Nat} {μ : gM} {P : va_W} {sa va ba vb w : Nat} {ml : Int32} {S U : List Nat} (hs : sSrc cy ad P sa va S) (hlen : U.length + S.length ≤ 1024) (hUw : U.length ≤ w) (hw2 : w ≤ 2056) : Met l yJ4_append_15ec4 [.code yJ4_append_15ec4 cJ4_append_15ec4 2 (some (.object "java/lang/StringBuilder"))] ({ frames := 5, cells := 1, slots := 2056, locals := 116 } : Room) (va_Pc [.ref ba, .ref sa] (hB l D cy ad b μ P [(ba, .inr (10, [.ref vb, .int (0 : Int32), .int ml, .int (nI U.length)])), (vb, .inl (cy 2, w, .inl (sby U)))])) (hQ b (fun rv H => ∃ vb2 w2 : Nat, rv = some (.ref ba) ∧ ((U ++ S).length ≤ w2 ∧ w2 ≤ 2056) ∧ hW D cy ad b μ P (sB cy ba vb2 w2 ml (U ++ S)) H)) 1 2056 (hA b) := by
  refine va_MetF (cc := cJ4_append_15ec4) (maxL := 2) (ret := (some (.object "java/lang/StringBuilder"))) (by decide +kernel) rfl ?_
  intro p e s m args below meth c s₁ B hml0 hv
  obtain ⟨rfl, E, hM⟩ := hv
  obtain ⟨hx, hb, hml, hown, hlocks, hr⟩ := (gF_of B hml0 : gF p s m meth c cJ4_append_15ec4 RJ4 2 (some (.object "java/lang/StringBuilder")))
  have hS : va_S (hA b) s.heap s.heap [] := va_S.rf
  have hl := lv_entry ([.ref ba, .ref sa]) (n := 2) (Nat.le_of_ble_eq_true rfl)
  rw [lg_entry_eq]
  generalize (lg_sl ([.ref ba, .ref sa]) ++ List.replicate (2 - (lg_sl ([.ref ba, .ref sa])).length) Slot.unset).toArray = ls at hl ⊢
  have hl : lv_has ls 2 [(0, .ref ba), (1, .ref sa)] := hl
  refine lv_aload_n hx hb dJ4_append_15ec4_0 rfl (lv_at hl 0 rfl) ?_
  refine lv_aload_n hx hb dJ4_append_15ec4_1 rfl (lv_at hl 1 rfl) ?_
  refine h_callP (As := [.ref sa]) (rest := []) hx hb (hml.trans hl.1.symm) hown E hM hS xp_J5_append_cf1ce kw_585 (c_appA hs hlen hUw hw2) (ht_m (List.mem_of_getElem? (i := 0) rfl)) gC_J4.1 rfl rfl (Nat.le_of_ble_eq_true rfl) ⟨(Nat.le_of_ble_eq_true rfl), (Nat.le_of_ble_eq_true rfl)⟩ ⟨(Nat.le_of_ble_eq_true rfl), (Nat.le_of_ble_eq_true rfl)⟩ dJ4_append_15ec4_2 (fun rv H locs hZ hS => ?_)
  obtain ⟨vb2, w2, rfl, he, hM⟩ := hZ
  replace hM : hW D cy ad b μ P [(ba, .inr (10, [.ref vb2, .int (0 : Int32), .int ml, .int (nI (U ++ S).length)])), (vb2, .inl (cy 2, w2, .inl (sby (U ++ S))))] H := hM
  refine lv_pop hx hb dJ4_append_15ec4_5 rfl ?_
  refine lv_aload_n hx hb dJ4_append_15ec4_6 rfl (lv_at hl 0 rfl) ?_
  exact h_aret hx hb hr (Or.inl ⟨_, rfl⟩) hlocks (Nat.le_of_ble_eq_true rfl) (Nat.le_of_ble_eq_true rfl) ⟨_, _, rfl, he, hM⟩ hS dJ4_append_15ec4_7

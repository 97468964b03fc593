theorem dJx4a65c_size_8abf5_0 : decode cJx4a65c_size_8abf5 0 = .ok (.aload_n 0, 1) := by decide +kernel
theorem dJx4a65c_size_8abf5_1 : decode cJx4a65c_size_8abf5 1 = .ok (.getfield 48, 3) := by decide +kernel
theorem dJx4a65c_size_8abf5_4 : decode cJx4a65c_size_8abf5 4 = .ok (.ireturn, 1) := by decide +kernel
set_option maxHeartbeats 4000000 in
set_option maxRecDepth 100000 in
theorem c_size {l : Launch} {D : va_G} {cy : Nat → ClassId} {ad : Nat → Nat} {b : Nat} {μ : gM} {P : va_W} {al ar n : Nat} {mc : Int32}  (hli : (al, .inr (13, [.int mc, .ref ar, .int (nI n)])) ∈ P) : Met l yJx4a65c_size_8abf5 [.code yJx4a65c_size_8abf5 cJx4a65c_size_8abf5 1 (some .int)] ({ frames := 0, cells := 0, slots := 0, locals := 0 } : Room) (va_Pc [.ref al] (hB l D cy ad b μ P [])) (hQ b (fun rv H => rv = some (.int (nI n)) ∧ hW D cy ad b μ P [] H)) 0 0 (hA b) := by
  refine va_MetF (cc := cJx4a65c_size_8abf5) (maxL := 1) (ret := (some .int)) (by decide +kernel) rfl ?_
  intro p e s m args below meth c s₁ B hml0 hv
  obtain ⟨rfl, E, hM⟩ := hv
  obtain ⟨hx, hb, hml, hown, hlocks, hr⟩ := (gF_of B hml0 : gF p s m meth c cJx4a65c_size_8abf5 RJx4a65c 1 (some .int))
  have hS : va_S (hA b) s.heap s.heap [] := va_S.rf
  have hl := lv_entry ([.ref al]) (n := 1) (Nat.le_of_ble_eq_true rfl)
  rw [lg_entry_eq]
  generalize (lg_sl ([.ref al]) ++ List.replicate (1 - (lg_sl ([.ref al])).length) Slot.unset).toArray = ls at hl ⊢
  have hl : lv_has ls 1 [(0, .ref al)] := hl
  refine lv_aload_n hx hb dJx4a65c_size_8abf5_0 rfl (lv_at hl 0 rfl) ?_
  refine h_get hx hb hown E hM (hp_m hli) gC_Jx4a65c 2 (by decide) (v := .int (nI n)) rfl kw_528 dJx4a65c_size_8abf5_1 ?_
  exact h_iret hx hb hr hlocks (Nat.le_of_ble_eq_true rfl) (Nat.le_of_ble_eq_true rfl) ⟨rfl, hM⟩ hS dJx4a65c_size_8abf5_4
theorem dJ3_checkIndex_8e157_0 : decode cJ3_checkIndex_8e157 0 = .ok (.iload_n 0, 1) := by decide +kernel
theorem dJ3_checkIndex_8e157_1 : decode cJ3_checkIndex_8e157 1 = .ok (.ifCond .lt 8, 3) := by decide +kernel
theorem dJ3_checkIndex_8e157_4 : decode cJ3_checkIndex_8e157 4 = .ok (.iload_n 0, 1) := by decide +kernel
theorem dJ3_checkIndex_8e157_5 : decode cJ3_checkIndex_8e157 5 = .ok (.iload_n 1, 1) := by decide +kernel
theorem dJ3_checkIndex_8e157_6 : decode cJ3_checkIndex_8e157 6 = .ok (.if_icmp .lt 10, 3) := by decide +kernel
theorem dJ3_checkIndex_8e157_9 : decode cJ3_checkIndex_8e157 9 = .ok (.aload_n 2, 1) := by decide +kernel
theorem dJ3_checkIndex_8e157_10 : decode cJ3_checkIndex_8e157 10 = .ok (.iload_n 0, 1) := by decide +kernel
theorem dJ3_checkIndex_8e157_11 : decode cJ3_checkIndex_8e157 11 = .ok (.iload_n 1, 1) := by decide +kernel
theorem dJ3_checkIndex_8e157_12 : decode cJ3_checkIndex_8e157 12 = .ok (.invokestatic 95, 3) := by decide +kernel
theorem dJ3_checkIndex_8e157_15 : decode cJ3_checkIndex_8e157 15 = .ok (.athrow, 1) := by decide +kernel
theorem dJ3_checkIndex_8e157_16 : decode cJ3_checkIndex_8e157 16 = .ok (.iload_n 0, 1) := by decide +kernel
theorem dJ3_checkIndex_8e157_17 : decode cJ3_checkIndex_8e157 17 = .ok (.ireturn, 1) := by decide +kernel
set_option maxHeartbeats 4000000 in
set_option maxRecDepth 100000 in
theorem c_pchk {l : Launch} {D : va_G} {cy : Nat → ClassId} {ad : Nat → Nat} {b : Nat} {μ : gM} {P : va_W} {k n : Nat} (hk : k < n) (hn : n < 2 ^ 31) : Met l yJ3_checkIndex_8e157 [.code yJ3_checkIndex_8e157 cJ3_checkIndex_8e157 3 (some .int)] ({ frames := 0, cells := 0, slots := 0, locals := 0 } : Room) (va_Pc [.int (nI k), .int (nI n), .null] (hB l D cy ad b μ P [])) (hQ b (fun rv H => rv = some (.int (nI k)) ∧ hW D cy ad b μ P [] H)) 0 0 (hA b) := by
  refine va_MetF (cc := cJ3_checkIndex_8e157) (maxL := 3) (ret := (some .int)) (by decide +kernel) rfl ?_
  intro p e s m args below meth c s₁ B hml0 hv
  obtain ⟨rfl, E, hM⟩ := hv
  obtain ⟨hx, hb, hml, hown, hlocks, hr⟩ := (gF_of B hml0 : gF p s m meth c cJ3_checkIndex_8e157 RJ3 3 (some .int))
  have hS : va_S (hA b) s.heap s.heap [] := va_S.rf
  have hl := lv_entry ([.int (nI k), .int (nI n), .null]) (n := 3) (Nat.le_of_ble_eq_true rfl)
  rw [lg_entry_eq]
  generalize (lg_sl ([.int (nI k), .int (nI n), .null]) ++ List.replicate (3 - (lg_sl ([.int (nI k), .int (nI n), .null])).length) Slot.unset).toArray = ls at hl ⊢
  have hl : lv_has ls 3 [(0, .int (nI k)), (1, .int (nI n)), (2, .null)] := hl
  refine lv_iload_n hx hb dJ3_checkIndex_8e157_0 rfl (lv_at hl 0 rfl) ?_
  refine lv_if_lt (tgt := 9) hx hb dJ3_checkIndex_8e157_1 (by decide) (fun c1 => ?_) (fun c1 => ?_)
  · exact absurd c1 (nI_pos (by omega))
  · refine lv_iload_n hx hb dJ3_checkIndex_8e157_4 rfl (lv_at hl 0 rfl) ?_
    refine lv_iload_n hx hb dJ3_checkIndex_8e157_5 rfl (lv_at hl 1 rfl) ?_
    refine lv_icmp_lt (tgt := 16) hx hb dJ3_checkIndex_8e157_6 (by decide) (fun c2 => ?_) (fun c2 => ?_)
    · refine lv_iload_n hx hb dJ3_checkIndex_8e157_16 rfl (lv_at hl 0 rfl) ?_
      exact h_iret hx hb hr hlocks (Nat.le_of_ble_eq_true rfl) (Nat.le_of_ble_eq_true rfl) ⟨rfl, hM⟩ hS dJ3_checkIndex_8e157_17
    · exact absurd (nI_lt hk hn) c2
theorem xs_J3_checkIndex_8e157 : gYS yJ3_checkIndex_8e157 cJ3_checkIndex_8e157 3 (some .int) 3 := ⟨kw_807, kw_70, kw_806, ⟨by decide +kernel, by decide +kernel⟩, by decide +kernel⟩
theorem dJ15_checkIndex_7cf53_0 : decode cJ15_checkIndex_7cf53 0 = .ok (.iload_n 0, 1) := by decide +kernel
theorem dJ15_checkIndex_7cf53_1 : decode cJ15_checkIndex_7cf53 1 = .ok (.iload_n 1, 1) := by decide +kernel
theorem dJ15_checkIndex_7cf53_2 : decode cJ15_checkIndex_7cf53 2 = .ok (.aconst_null, 1) := by decide +kernel
theorem dJ15_checkIndex_7cf53_3 : decode cJ15_checkIndex_7cf53 3 = .ok (.invokestatic 105, 3) := by decide +kernel
theorem dJ15_checkIndex_7cf53_6 : decode cJ15_checkIndex_7cf53 6 = .ok (.ireturn, 1) := by decide +kernel
set_option maxHeartbeats 4000000 in
set_option maxRecDepth 100000 in
theorem c_ochk {l : Launch} {D : va_G} {cy : Nat → ClassId} {ad : Nat → Nat} {b : Nat} {μ : gM} {P : va_W} {k n : Nat} (hk : k < n) (hn : n < 2 ^ 31) : Met l yJ15_checkIndex_7cf53 [.code yJ15_checkIndex_7cf53 cJ15_checkIndex_7cf53 2 (some .int)] ({ frames := 1, cells := 0, slots := 0, locals := 22 } : Room) (va_Pc [.int (nI k), .int (nI n)] (hB l D cy ad b μ P [])) (hQ b (fun rv H => rv = some (.int (nI k)) ∧ hW D cy ad b μ P [] H)) 0 0 (hA b) := by
  refine va_MetF (cc := cJ15_checkIndex_7cf53) (maxL := 2) (ret := (some .int)) (by decide +kernel) rfl ?_
  intro p e s m args below meth c s₁ B hml0 hv
  obtain ⟨rfl, E, hM⟩ := hv
  obtain ⟨hx, hb, hml, hown, hlocks, hr⟩ := (gF_of B hml0 : gF p s m meth c cJ15_checkIndex_7cf53 RJ15 2 (some .int))
  have hS : va_S (hA b) s.heap s.heap [] := va_S.rf
  have hl := lv_entry ([.int (nI k), .int (nI n)]) (n := 2) (Nat.le_of_ble_eq_true rfl)
  rw [lg_entry_eq]
  generalize (lg_sl ([.int (nI k), .int (nI n)]) ++ List.replicate (2 - (lg_sl ([.int (nI k), .int (nI n)])).length) Slot.unset).toArray = ls at hl ⊢
  have hl : lv_has ls 2 [(0, .int (nI k)), (1, .int (nI n))] := hl
  refine lv_iload_n hx hb dJ15_checkIndex_7cf53_0 rfl (lv_at hl 0 rfl) ?_
  refine lv_iload_n hx hb dJ15_checkIndex_7cf53_1 rfl (lv_at hl 1 rfl) ?_
  refine lv_null hx hb dJ15_checkIndex_7cf53_2 ?_
  refine h_callS (As := [.int (nI k), .int (nI n), .null]) (rest := []) hx hb (hml.trans hl.1.symm) hown E hM hS xs_J3_checkIndex_8e157 kw_877 (c_pchk hk hn) rfl rfl (Nat.le_of_ble_eq_true rfl) ⟨(Nat.le_of_ble_eq_true rfl), (Nat.le_of_ble_eq_true rfl)⟩ ⟨(Nat.le_of_ble_eq_true rfl), (Nat.le_of_ble_eq_true rfl)⟩ dJ15_checkIndex_7cf53_3 (fun rv H locs hZ hS => ?_)
  obtain ⟨rfl, hM⟩ := hZ
  exact h_iret hx hb hr hlocks (Nat.le_of_ble_eq_true rfl) (Nat.le_of_ble_eq_true rfl) ⟨rfl, hM⟩ hS dJ15_checkIndex_7cf53_6
theorem dJx4a65c_elementData_915e3_0 : decode cJx4a65c_elementData_915e3 0 = .ok (.aload_n 0, 1) := by decide +kernel
theorem dJx4a65c_elementData_915e3_1 : decode cJx4a65c_elementData_915e3 1 = .ok (.getfield 9, 3) := by decide +kernel
theorem dJx4a65c_elementData_915e3_4 : decode cJx4a65c_elementData_915e3 4 = .ok (.iload_n 1, 1) := by decide +kernel
theorem dJx4a65c_elementData_915e3_5 : decode cJx4a65c_elementData_915e3 5 = .ok (.aaload, 1) := by decide +kernel
theorem dJx4a65c_elementData_915e3_6 : decode cJx4a65c_elementData_915e3 6 = .ok (.areturn, 1) := by decide +kernel
set_option maxHeartbeats 4000000 in
set_option maxRecDepth 100000 in
theorem c_elem {l : Launch} {D : va_G} {cy : Nat → ClassId} {ad : Nat → Nat} {b : Nat} {μ : gM} {P : va_W} {al ar n N k v : Nat} {mc : Int32} {g : Nat → Option Nat} (hli : (al, .inr (13, [.int mc, .ref ar, .int (nI n)])) ∈ P) (hro : (ar, .inl (cy 4, N, .inr (.inr (.inr (.inr g))))) ∈ P) (hk : k < n) (hn : n < 2 ^ 31) (hN : n ≤ N) (hN2 : N < 2 ^ 31) (hg : g k = some v) : Met l yJx4a65c_elementData_915e3 [.code yJx4a65c_elementData_915e3 cJx4a65c_elementData_915e3 2 (some (.object "java/lang/Object"))] ({ frames := 0, cells := 0, slots := 0, locals := 0 } : Room) (va_Pc [.ref al, .int (nI k)] (hB l D cy ad b μ P [])) (hQ b (fun rv H => rv = some (.ref v) ∧ hW D cy ad b μ P [] H)) 0 0 (hA b) := by
  refine va_MetF (cc := cJx4a65c_elementData_915e3) (maxL := 2) (ret := (some (.object "java/lang/Object"))) (by decide +kernel) rfl ?_
  intro p e s m args below meth c s₁ B hml0 hv
  obtain ⟨rfl, E, hM⟩ := hv
  obtain ⟨hx, hb, hml, hown, hlocks, hr⟩ := (gF_of B hml0 : gF p s m meth c cJx4a65c_elementData_915e3 RJx4a65c 2 (some (.object "java/lang/Object")))
  have hS : va_S (hA b) s.heap s.heap [] := va_S.rf
  have hl := lv_entry ([.ref al, .int (nI k)]) (n := 2) (Nat.le_of_ble_eq_true rfl)
  rw [lg_entry_eq]
  generalize (lg_sl ([.ref al, .int (nI k)]) ++ List.replicate (2 - (lg_sl ([.ref al, .int (nI k)])).length) Slot.unset).toArray = ls at hl ⊢
  have hl : lv_has ls 2 [(0, .ref al), (1, .int (nI k))] := hl
  refine lv_aload_n hx hb dJx4a65c_elementData_915e3_0 rfl (lv_at hl 0 rfl) ?_
  refine h_get hx hb hown E hM (hp_m hli) gC_Jx4a65c 1 (by decide) (v := .ref ar) rfl kw_525 dJx4a65c_elementData_915e3_1 ?_
  refine lv_iload_n hx hb dJx4a65c_elementData_915e3_4 rfl (lv_at hl 1 rfl) ?_
  refine h_aald hx hb E hM (hp_m hro) (i := nI k) (x_in (by omega) hN2) (v := .ref v) (x_rf (by omega) hg) dJx4a65c_elementData_915e3_5 ?_
  exact h_aret hx hb hr (Or.inl ⟨_, rfl⟩) hlocks (Nat.le_of_ble_eq_true rfl) (Nat.le_of_ble_eq_true rfl) ⟨rfl, hM⟩ hS dJx4a65c_elementData_915e3_6
theorem xs_J15_checkIndex_7cf53 : gYS yJ15_checkIndex_7cf53 cJ15_checkIndex_7cf53 2 (some .int) 2 := ⟨kw_876, kw_74, kw_875, ⟨by decide +kernel, by decide +kernel⟩, by decide +kernel⟩
theorem xy_Jx4a65c_elementData_915e3 : gYV yJx4a65c_elementData_915e3 cJx4a65c_elementData_915e3 2 (some (.object "java/lang/Object")) 1 := ⟨kw_881, kw_61, kw_879, kw_880, ⟨by decide +kernel, by decide +kernel⟩, by decide +kernel⟩
theorem dJx4a65c_get_915e3_0 : decode cJx4a65c_get_915e3 0 = .ok (.iload_n 1, 1) := by decide +kernel
theorem dJx4a65c_get_915e3_1 : decode cJx4a65c_get_915e3 1 = .ok (.aload_n 0, 1) := by decide +kernel
theorem dJx4a65c_get_915e3_2 : decode cJx4a65c_get_915e3 2 = .ok (.getfield 48, 3) := by decide +kernel
theorem dJx4a65c_get_915e3_5 : decode cJx4a65c_get_915e3 5 = .ok (.invokestatic 118, 3) := by decide +kernel
theorem dJx4a65c_get_915e3_8 : decode cJx4a65c_get_915e3 8 = .ok (.pop, 1) := by decide +kernel
theorem dJx4a65c_get_915e3_9 : decode cJx4a65c_get_915e3 9 = .ok (.aload_n 0, 1) := by decide +kernel
theorem dJx4a65c_get_915e3_10 : decode cJx4a65c_get_915e3 10 = .ok (.iload_n 1, 1) := by decide +kernel
theorem dJx4a65c_get_915e3_11 : decode cJx4a65c_get_915e3 11 = .ok (.invokevirtual 123, 3) := by decide +kernel
theorem dJx4a65c_get_915e3_14 : decode cJx4a65c_get_915e3 14 = .ok (.areturn, 1) := by decide +kernel
set_option maxHeartbeats 4000000 in
set_option maxRecDepth 100000 in
theorem c_get {l : Launch} {D : va_G} {cy : Nat → ClassId} {ad : Nat → Nat} {b : Nat} {μ : gM} {P : va_W} {al ar n N k v : Nat} {mc : Int32} {g : Nat → Option Nat} (hli : (al, .inr (13, [.int mc, .ref ar, .int (nI n)])) ∈ P) (hro : (ar, .inl (cy 4, N, .inr (.inr (.inr (.inr g))))) ∈ P) (hk : k < n) (hn : n < 2 ^ 31) (hN : n ≤ N) (hN2 : N < 2 ^ 31) (hg : g k = some v) : Met l yJx4a65c_get_915e3 [.code yJx4a65c_get_915e3 cJx4a65c_get_915e3 2 (some (.object "java/lang/Object"))] ({ frames := 2, cells := 0, slots := 0, locals := 43 } : Room) (va_Pc [.ref al, .int (nI k)] (hB l D cy ad b μ P [])) (hQ b (fun rv H => rv = some (.ref v) ∧ hW D cy ad b μ P [] H)) 0 0 (hA b) := by
  refine va_MetF (cc := cJx4a65c_get_915e3) (maxL := 2) (ret := (some (.object "java/lang/Object"))) (by decide +kernel) rfl ?_
  intro p e s m args below meth c s₁ B hml0 hv
  obtain ⟨rfl, E, hM⟩ := hv
  obtain ⟨hx, hb, hml, hown, hlocks, hr⟩ := (gF_of B hml0 : gF p s m meth c cJx4a65c_get_915e3 RJx4a65c 2 (some (.object "java/lang/Object")))
  have hS : va_S (hA b) s.heap s.heap [] := va_S.rf
  have hl := lv_entry ([.ref al, .int (nI k)]) (n := 2) (Nat.le_of_ble_eq_true rfl)
  rw [lg_entry_eq]
  generalize (lg_sl ([.ref al, .int (nI k)]) ++ List.replicate (2 - (lg_sl ([.ref al, .int (nI k)])).length) Slot.unset).toArray = ls at hl ⊢
  have hl : lv_has ls 2 [(0, .ref al), (1, .int (nI k))] := hl
  refine lv_iload_n hx hb dJx4a65c_get_915e3_0 rfl (lv_at hl 1 rfl) ?_
  refine lv_aload_n hx hb dJx4a65c_get_915e3_1 rfl (lv_at hl 0 rfl) ?_
  refine h_get hx hb hown E hM (hp_m hli) gC_Jx4a65c 2 (by decide) (v := .int (nI n)) rfl kw_528 dJx4a65c_get_915e3_2 ?_
  refine h_callS (As := [.int (nI k), .int (nI n)]) (rest := []) hx hb (hml.trans hl.1.symm) hown E hM hS xs_J15_checkIndex_7cf53 kw_874 (c_ochk hk hn) rfl rfl (Nat.le_of_ble_eq_true rfl) ⟨(Nat.le_of_ble_eq_true rfl), (Nat.le_of_ble_eq_true rfl)⟩ ⟨(Nat.le_of_ble_eq_true rfl), (Nat.le_of_ble_eq_true rfl)⟩ dJx4a65c_get_915e3_5 (fun rv H locs hZ hS => ?_)
  obtain ⟨rfl, hM⟩ := hZ
  refine lv_pop hx hb dJx4a65c_get_915e3_8 rfl ?_
  refine lv_aload_n hx hb dJx4a65c_get_915e3_9 rfl (lv_at hl 0 rfl) ?_
  refine lv_iload_n hx hb dJx4a65c_get_915e3_10 rfl (lv_at hl 1 rfl) ?_
  refine h_callV (As := [.int (nI k)]) (rest := []) hx hb (hml.trans hl.1.symm) hown E hM hS xy_Jx4a65c_elementData_915e3 kw_878 (c_elem hli hro hk hn hN hN2 hg) (hp_m hli) gC_Jx4a65c.1 rfl rfl (Nat.le_of_ble_eq_true rfl) ⟨(Nat.le_of_ble_eq_true rfl), (Nat.le_of_ble_eq_true rfl)⟩ ⟨(Nat.le_of_ble_eq_true rfl), (Nat.le_of_ble_eq_true rfl)⟩ dJx4a65c_get_915e3_11 (fun rv H locs hZ hS => ?_)
  obtain ⟨rfl, hM⟩ := hZ
  exact h_aret hx hb hr (Or.inl ⟨_, rfl⟩) hlocks (Nat.le_of_ble_eq_true rfl) (Nat.le_of_ble_eq_true rfl) ⟨rfl, hM⟩ hS dJx4a65c_get_915e3_14
theorem dJx35411_init_45d68_0 : decode cJx35411_init_45d68 0 = .ok (.aload_n 0, 1) := by decide +kernel
theorem dJx35411_init_45d68_1 : decode cJx35411_init_45d68 1 = .ok (.aload_n 1, 1) := by decide +kernel
theorem dJx35411_init_45d68_2 : decode cJx35411_init_45d68 2 = .ok (.putfield 1, 3) := by decide +kernel
theorem dJx35411_init_45d68_5 : decode cJx35411_init_45d68 5 = .ok (.aload_n 0, 1) := by decide +kernel
theorem dJx35411_init_45d68_6 : decode cJx35411_init_45d68 6 = .ok (.invokespecial 7, 3) := by decide +kernel
theorem dJx35411_init_45d68_9 : decode cJx35411_init_45d68 9 = .ok (.aload_n 0, 1) := by decide +kernel
theorem dJx35411_init_45d68_10 : decode cJx35411_init_45d68 10 = .ok (.iconst (-1), 1) := by decide +kernel
theorem dJx35411_init_45d68_11 : decode cJx35411_init_45d68 11 = .ok (.putfield 13, 3) := by decide +kernel
theorem dJx35411_init_45d68_14 : decode cJx35411_init_45d68 14 = .ok (.aload_n 0, 1) := by decide +kernel
theorem dJx35411_init_45d68_15 : decode cJx35411_init_45d68 15 = .ok (.aload_n 0, 1) := by decide +kernel
theorem dJx35411_init_45d68_16 : decode cJx35411_init_45d68 16 = .ok (.getfield 1, 3) := by decide +kernel
theorem dJx35411_init_45d68_19 : decode cJx35411_init_45d68 19 = .ok (.getfield 17, 3) := by decide +kernel
theorem dJx35411_init_45d68_22 : decode cJx35411_init_45d68 22 = .ok (.putfield 22, 3) := by decide +kernel
theorem dJx35411_init_45d68_25 : decode cJx35411_init_45d68 25 = .ok (.return_, 1) := by decide +kernel
set_option maxHeartbeats 4000000 in
set_option maxRecDepth 100000 in
theorem c_itin {l : Launch} {D : va_G} {cy : Nat → ClassId} {ad : Nat → Nat} {b : Nat} {μ : gM} {P : va_W} {al ar n : Nat} {mc : Int32}  {a : Nat} (hli : (al, .inr (13, [.int mc, .ref ar, .int (nI n)])) ∈ P) : Met l yJx35411_init_45d68 [.code yJx35411_init_45d68 cJx35411_init_45d68 2 none] ({ frames := 1, cells := 0, slots := 0, locals := 30 } : Room) (va_Pc [.ref a, .ref al] (hB l D cy ad b μ P [(a, .inr (12, [.int 0, .int 0, .int 0, .null]))])) (hQ b (fun rv H => rv = none ∧ hW D cy ad b μ P [(a, .inr (12, [.int 0, .int (-1), .int mc, .ref al]))] H)) 0 0 (hA b) := by
  refine va_MetF (cc := cJx35411_init_45d68) (maxL := 2) (ret := none) (by decide +kernel) rfl ?_
  intro p e s m args below meth c s₁ B hml0 hv
  obtain ⟨rfl, E, hM⟩ := hv
  obtain ⟨hx, hb, hml, hown, hlocks, hr⟩ := (gF_of B hml0 : gF p s m meth c cJx35411_init_45d68 RJx35411 2 none)
  have hin : meth.name = "<init>" := (name_of_methodNamed B.named B.method).1
  have hS : va_S (hA b) s.heap s.heap [] := va_S.rf
  have hl := lv_entry ([.ref a, .ref al]) (n := 2) (Nat.le_of_ble_eq_true rfl)
  rw [lg_entry_eq]
  generalize (lg_sl ([.ref a, .ref al]) ++ List.replicate (2 - (lg_sl ([.ref a, .ref al])).length) Slot.unset).toArray = ls at hl ⊢
  have hl : lv_has ls 2 [(0, .ref a), (1, .ref al)] := hl
  refine lv_aload_n hx hb dJx35411_init_45d68_0 rfl (lv_at hl 0 rfl) ?_
  refine lv_aload_n hx hb dJx35411_init_45d68_1 rfl (lv_at hl 1 rfl) ?_
  refine h_putF (j := 0) hx hb hown E hM hS hin rfl gC_Jx35411 3 (by decide) rfl rfl (tyJx35411_ok 3 (by decide)) rfl rfl kw_1163 (Nat.le_of_ble_eq_true rfl) dJx35411_init_45d68_2 (fun H locs hM hS => ?_)
  replace hM : hW D cy ad b μ P [(a, .inr (12, [.int 0, .int 0, .int 0, .ref al]))] H := hM
  refine lv_aload_n hx hb dJx35411_init_45d68_5 rfl (lv_at hl 0 rfl) ?_
  refine W.objInit hx hb hown (E.kw kw_1159) (E.kw kw_161) (E.kw kw_162) rfl (hl.1.trans hml.symm) rfl dJx35411_init_45d68_6 (Nat.le_of_ble_eq_true rfl) (Nat.le_of_ble_eq_true rfl) ?_
  refine lv_aload_n hx hb dJx35411_init_45d68_9 rfl (lv_at hl 0 rfl) ?_
  refine lv_iconst (v := (-1 : Int32)) hx hb dJx35411_init_45d68_10 (by decide) ?_
  refine h_put (j := 0) hx hb hown E hM hS rfl gC_Jx35411 1 (by decide) rfl (tyJx35411_ok 1 (by decide)) rfl rfl kw_1161 (Nat.le_of_ble_eq_true rfl) dJx35411_init_45d68_11 (fun H locs hM hS => ?_)
  replace hM : hW D cy ad b μ P [(a, .inr (12, [.int 0, .int (-1 : Int32), .int 0, .ref al]))] H := hM
  refine lv_aload_n hx hb dJx35411_init_45d68_14 rfl (lv_at hl 0 rfl) ?_
  refine lv_aload_n hx hb dJx35411_init_45d68_15 rfl (lv_at hl 0 rfl) ?_
  refine h_get hx hb hown E hM (ht_m (List.mem_of_getElem? (i := 0) rfl)) gC_Jx35411 3 (by decide) (v := .ref al) rfl kw_1163 dJx35411_init_45d68_16 ?_
  refine h_getU hx hb hown E hM (hp_m hli) gC_Jx4a65c 0 (by decide) (v := .int mc) rfl kw_530 kz_531 dJx35411_init_45d68_19 ?_
  refine h_put (j := 0) hx hb hown E hM hS rfl gC_Jx35411 2 (by decide) rfl (tyJx35411_ok 2 (by decide)) rfl rfl kw_1162 (Nat.le_of_ble_eq_true rfl) dJx35411_init_45d68_22 (fun H locs hM hS => ?_)
  replace hM : hW D cy ad b μ P [(a, .inr (12, [.int 0, .int (-1 : Int32), .int mc, .ref al]))] H := hM
  exact h_vret hx hb hr hlocks (Nat.le_of_ble_eq_true rfl) (Nat.le_of_ble_eq_true rfl) ⟨rfl, hM⟩ hS dJx35411_init_45d68_25
theorem xi_Jx35411_init_45d68 : gYI yJx35411_init_45d68 cJx35411_init_45d68 2 1 := ⟨kw_1158, kw_79, kw_1157, ⟨by decide +kernel, by decide +kernel⟩, by decide +kernel, rfl⟩
theorem dJx4a65c_iterator_32c93_0 : decode cJx4a65c_iterator_32c93 0 = .ok (.new 267, 3) := by decide +kernel
theorem dJx4a65c_iterator_32c93_3 : decode cJx4a65c_iterator_32c93 3 = .ok (.dup, 1) := by decide +kernel
theorem dJx4a65c_iterator_32c93_4 : decode cJx4a65c_iterator_32c93 4 = .ok (.aload_n 0, 1) := by decide +kernel
theorem dJx4a65c_iterator_32c93_5 : decode cJx4a65c_iterator_32c93 5 = .ok (.invokespecial 269, 3) := by decide +kernel
theorem dJx4a65c_iterator_32c93_8 : decode cJx4a65c_iterator_32c93 8 = .ok (.areturn, 1) := by decide +kernel
set_option maxHeartbeats 4000000 in
set_option maxRecDepth 100000 in
theorem c_iter {l : Launch} {D : va_G} {cy : Nat → ClassId} {ad : Nat → Nat} {b : Nat} {μ : gM} {P : va_W} {al ar n : Nat} {mc : Int32}  (hli : (al, .inr (13, [.int mc, .ref ar, .int (nI n)])) ∈ P) : Met l yJx4a65c_iterator_32c93 [.code yJx4a65c_iterator_32c93 cJx4a65c_iterator_32c93 1 (some (.object "java/util/Iterator"))] ({ frames := 2, cells := 1, slots := 4, locals := 51 } : Room) (va_Pc [.ref al] (hB l D cy ad b μ P [])) (hQ b (fun rv H => ∃ a, rv = some (.ref a) ∧ hW D cy ad b μ P [(a, .inr (12, [.int (nI 0), .int (-1), .int mc, .ref al]))] H)) 1 4 (hA b) := by
  refine va_MetF (cc := cJx4a65c_iterator_32c93) (maxL := 1) (ret := (some (.object "java/util/Iterator"))) (by decide +kernel) rfl ?_
  intro p e s m args below meth c s₁ B hml0 hv
  obtain ⟨rfl, E, hM⟩ := hv
  obtain ⟨hx, hb, hml, hown, hlocks, hr⟩ := (gF_of B hml0 : gF p s m meth c cJx4a65c_iterator_32c93 RJx4a65c 1 (some (.object "java/util/Iterator")))
  have hS : va_S (hA b) s.heap s.heap [] := va_S.rf
  have hl := lv_entry ([.ref al]) (n := 1) (Nat.le_of_ble_eq_true rfl)
  rw [lg_entry_eq]
  generalize (lg_sl ([.ref al]) ++ List.replicate (1 - (lg_sl ([.ref al])).length) Slot.unset).toArray = ls at hl ⊢
  have hl : lv_has ls 1 [(0, .ref al)] := hl
  refine h_new hx hb hown E hM hS gC_Jx35411 kw_1154 kw_1155 kw_79 (fs := [.int (0 : Int32), .int (0 : Int32), .int (0 : Int32), .null]) (by decide +kernel) (Nat.le_of_ble_eq_true rfl) (Nat.le_of_ble_eq_true rfl) dJx4a65c_iterator_32c93_0 (fun a1 H hM hS => ?_)
  replace hM : hW D cy ad b μ P [(a1, .inr (12, [.int (0 : Int32), .int (0 : Int32), .int (0 : Int32), .null]))] H := hM
  refine lv_dup hx hb dJx4a65c_iterator_32c93_3 rfl ?_
  refine lv_aload_n hx hb dJx4a65c_iterator_32c93_4 rfl (lv_at hl 0 rfl) ?_
  refine h_callI (As := [.ref al]) (rest := [.ref a1]) hx hb (hml.trans hl.1.symm) hown E hM hS xi_Jx35411_init_45d68 kw_1156 (c_itin hli) rfl rfl (Nat.le_of_ble_eq_true rfl) ⟨(Nat.le_of_ble_eq_true rfl), (Nat.le_of_ble_eq_true rfl)⟩ ⟨(Nat.le_of_ble_eq_true rfl), (Nat.le_of_ble_eq_true rfl)⟩ dJx4a65c_iterator_32c93_5 (fun rv H locs hZ hS => ?_)
  obtain ⟨rfl, hM⟩ := hZ
  exact h_aret hx hb hr (Or.inl ⟨_, rfl⟩) hlocks (Nat.le_of_ble_eq_true rfl) (Nat.le_of_ble_eq_true rfl) ⟨a1, rfl, hM⟩ hS dJx4a65c_iterator_32c93_8
theorem dJx35411_hasNext_aae02_0 : decode cJx35411_hasNext_aae02 0 = .ok (.aload_n 0, 1) := by decide +kernel
theorem dJx35411_hasNext_aae02_1 : decode cJx35411_hasNext_aae02 1 = .ok (.getfield 25, 3) := by decide +kernel
theorem dJx35411_hasNext_aae02_4 : decode cJx35411_hasNext_aae02 4 = .ok (.aload_n 0, 1) := by decide +kernel
theorem dJx35411_hasNext_aae02_5 : decode cJx35411_hasNext_aae02 5 = .ok (.getfield 1, 3) := by decide +kernel
theorem dJx35411_hasNext_aae02_8 : decode cJx35411_hasNext_aae02 8 = .ok (.getfield 28, 3) := by decide +kernel
theorem dJx35411_hasNext_aae02_11 : decode cJx35411_hasNext_aae02 11 = .ok (.if_icmp .eq 7, 3) := by decide +kernel
theorem dJx35411_hasNext_aae02_14 : decode cJx35411_hasNext_aae02 14 = .ok (.iconst 1, 1) := by decide +kernel
theorem dJx35411_hasNext_aae02_15 : decode cJx35411_hasNext_aae02 15 = .ok (.goto 4, 3) := by decide +kernel
theorem dJx35411_hasNext_aae02_18 : decode cJx35411_hasNext_aae02 18 = .ok (.iconst 0, 1) := by decide +kernel
theorem dJx35411_hasNext_aae02_19 : decode cJx35411_hasNext_aae02 19 = .ok (.ireturn, 1) := by decide +kernel
set_option maxHeartbeats 4000000 in
set_option maxRecDepth 100000 in
theorem c_has1 {l : Launch} {D : va_G} {cy : Nat → ClassId} {ad : Nat → Nat} {b : Nat} {μ : gM} {P : va_W} {al ar n k : Nat} {mc : Int32}  {a : Nat} {r : Int32} (hli : (al, .inr (13, [.int mc, .ref ar, .int (nI n)])) ∈ P) (hk : k < n) (hn : n < 2 ^ 31) : Met l yJx35411_hasNext_aae02 [.code yJx35411_hasNext_aae02 cJx35411_hasNext_aae02 1 (some .boolean)] ({ frames := 0, cells := 0, slots := 0, locals := 0 } : Room) (va_Pc [.ref a] (hB l D cy ad b μ P [(a, .inr (12, [.int (nI k), .int r, .int mc, .ref al]))])) (hQ b (fun rv H => rv = some (.int 1) ∧ hW D cy ad b μ P [(a, .inr (12, [.int (nI k), .int r, .int mc, .ref al]))] H)) 0 0 (hA b) := by
  refine va_MetF (cc := cJx35411_hasNext_aae02) (maxL := 1) (ret := (some .boolean)) (by decide +kernel) rfl ?_
  intro p e s m args below meth c s₁ B hml0 hv
  obtain ⟨rfl, E, hM⟩ := hv
  obtain ⟨hx, hb, hml, hown, hlocks, hr⟩ := (gF_of B hml0 : gF p s m meth c cJx35411_hasNext_aae02 RJx35411 1 (some .boolean))
  have hS : va_S (hA b) s.heap s.heap [] := va_S.rf
  have hl := lv_entry ([.ref a]) (n := 1) (Nat.le_of_ble_eq_true rfl)
  rw [lg_entry_eq]
  generalize (lg_sl ([.ref a]) ++ List.replicate (1 - (lg_sl ([.ref a])).length) Slot.unset).toArray = ls at hl ⊢
  have hl : lv_has ls 1 [(0, .ref a)] := hl
  refine lv_aload_n hx hb dJx35411_hasNext_aae02_0 rfl (lv_at hl 0 rfl) ?_
  refine h_get hx hb hown E hM (ht_m (List.mem_of_getElem? (i := 0) rfl)) gC_Jx35411 0 (by decide) (v := .int (nI k)) rfl kw_1160 dJx35411_hasNext_aae02_1 ?_
  refine lv_aload_n hx hb dJx35411_hasNext_aae02_4 rfl (lv_at hl 0 rfl) ?_
  refine h_get hx hb hown E hM (ht_m (List.mem_of_getElem? (i := 0) rfl)) gC_Jx35411 3 (by decide) (v := .ref al) rfl kw_1163 dJx35411_hasNext_aae02_5 ?_
  refine h_getN (host := "java/util/ArrayList") hx hb hown E hM (hp_m hli) gC_Jx4a65c 2 (by decide) (v := .int (nI n)) rfl (List.mem_of_getElem? (i := 0) rfl) dJx35411_hasNext_aae02_8 ?_
  refine lv_icmp_eq (tgt := 18) hx hb dJx35411_hasNext_aae02_11 (by decide) (fun c1 => ?_) (fun c1 => ?_)
  · exact absurd c1 (fun q => by have := (nI_eq (by omega) hn).mp q; omega)
  · refine lv_iconst (v := (1 : Int32)) hx hb dJx35411_hasNext_aae02_14 (by decide) ?_
    refine lv_goto (tgt := 19) hx hb dJx35411_hasNext_aae02_15 (by decide) ?_
    exact h_zret hx hb hr hlocks (Nat.le_of_ble_eq_true rfl) (Nat.le_of_ble_eq_true rfl) rfl ⟨rfl, hM⟩ hS dJx35411_hasNext_aae02_19
set_option maxHeartbeats 4000000 in
set_option maxRecDepth 100000 in
theorem c_has0 {l : Launch} {D : va_G} {cy : Nat → ClassId} {ad : Nat → Nat} {b : Nat} {μ : gM} {P : va_W} {al ar n : Nat} {mc : Int32}  {a : Nat} {r : Int32} (hli : (al, .inr (13, [.int mc, .ref ar, .int (nI n)])) ∈ P) : Met l yJx35411_hasNext_aae02 [.code yJx35411_hasNext_aae02 cJx35411_hasNext_aae02 1 (some .boolean)] ({ frames := 0, cells := 0, slots := 0, locals := 0 } : Room) (va_Pc [.ref a] (hB l D cy ad b μ P [(a, .inr (12, [.int (nI n), .int r, .int mc, .ref al]))])) (hQ b (fun rv H => rv = some (.int 0) ∧ hW D cy ad b μ P [(a, .inr (12, [.int (nI n), .int r, .int mc, .ref al]))] H)) 0 0 (hA b) := by
  refine va_MetF (cc := cJx35411_hasNext_aae02) (maxL := 1) (ret := (some .boolean)) (by decide +kernel) rfl ?_
  intro p e s m args below meth c s₁ B hml0 hv
  obtain ⟨rfl, E, hM⟩ := hv
  obtain ⟨hx, hb, hml, hown, hlocks, hr⟩ := (gF_of B hml0 : gF p s m meth c cJx35411_hasNext_aae02 RJx35411 1 (some .boolean))
  have hS : va_S (hA b) s.heap s.heap [] := va_S.rf
  have hl := lv_entry ([.ref a]) (n := 1) (Nat.le_of_ble_eq_true rfl)
  rw [lg_entry_eq]
  generalize (lg_sl ([.ref a]) ++ List.replicate (1 - (lg_sl ([.ref a])).length) Slot.unset).toArray = ls at hl ⊢
  have hl : lv_has ls 1 [(0, .ref a)] := hl
  refine lv_aload_n hx hb dJx35411_hasNext_aae02_0 rfl (lv_at hl 0 rfl) ?_
  refine h_get hx hb hown E hM (ht_m (List.mem_of_getElem? (i := 0) rfl)) gC_Jx35411 0 (by decide) (v := .int (nI n)) rfl kw_1160 dJx35411_hasNext_aae02_1 ?_
  refine lv_aload_n hx hb dJx35411_hasNext_aae02_4 rfl (lv_at hl 0 rfl) ?_
  refine h_get hx hb hown E hM (ht_m (List.mem_of_getElem? (i := 0) rfl)) gC_Jx35411 3 (by decide) (v := .ref al) rfl kw_1163 dJx35411_hasNext_aae02_5 ?_
  refine h_getN (host := "java/util/ArrayList") hx hb hown E hM (hp_m hli) gC_Jx4a65c 2 (by decide) (v := .int (nI n)) rfl (List.mem_of_getElem? (i := 0) rfl) dJx35411_hasNext_aae02_8 ?_
  refine lv_icmp_eq (tgt := 18) hx hb dJx35411_hasNext_aae02_11 (by decide) (fun c1 => ?_) (fun c1 => ?_)
  · refine lv_iconst (v := (0 : Int32)) hx hb dJx35411_hasNext_aae02_18 (by decide) ?_
    exact h_zret hx hb hr hlocks (Nat.le_of_ble_eq_true rfl) (Nat.le_of_ble_eq_true rfl) rfl ⟨rfl, hM⟩ hS dJx35411_hasNext_aae02_19
  · exact absurd rfl c1
theorem dJx35411_checkForComodification_da8c8_0 : decode cJx35411_checkForComodification_da8c8 0 = .ok (.aload_n 0, 1) := by decide +kernel
theorem dJx35411_checkForComodification_da8c8_1 : decode cJx35411_checkForComodification_da8c8 1 = .ok (.getfield 1, 3) := by decide +kernel
theorem dJx35411_checkForComodification_da8c8_4 : decode cJx35411_checkForComodification_da8c8 4 = .ok (.getfield 17, 3) := by decide +kernel
theorem dJx35411_checkForComodification_da8c8_7 : decode cJx35411_checkForComodification_da8c8 7 = .ok (.aload_n 0, 1) := by decide +kernel
theorem dJx35411_checkForComodification_da8c8_8 : decode cJx35411_checkForComodification_da8c8 8 = .ok (.getfield 22, 3) := by decide +kernel
theorem dJx35411_checkForComodification_da8c8_11 : decode cJx35411_checkForComodification_da8c8 11 = .ok (.if_icmp .eq 11, 3) := by decide +kernel
theorem dJx35411_checkForComodification_da8c8_14 : decode cJx35411_checkForComodification_da8c8 14 = .ok (.new 41, 3) := by decide +kernel
theorem dJx35411_checkForComodification_da8c8_17 : decode cJx35411_checkForComodification_da8c8 17 = .ok (.dup, 1) := by decide +kernel
theorem dJx35411_checkForComodification_da8c8_18 : decode cJx35411_checkForComodification_da8c8 18 = .ok (.invokespecial 43, 3) := by decide +kernel
theorem dJx35411_checkForComodification_da8c8_21 : decode cJx35411_checkForComodification_da8c8 21 = .ok (.athrow, 1) := by decide +kernel
theorem dJx35411_checkForComodification_da8c8_22 : decode cJx35411_checkForComodification_da8c8 22 = .ok (.return_, 1) := by decide +kernel
set_option maxHeartbeats 4000000 in
set_option maxRecDepth 100000 in
theorem c_comod {l : Launch} {D : va_G} {cy : Nat → ClassId} {ad : Nat → Nat} {b : Nat} {μ : gM} {P : va_W} {al ar n : Nat} {mc : Int32}  {a : Nat} {x r : Int32} (hli : (al, .inr (13, [.int mc, .ref ar, .int (nI n)])) ∈ P) : Met l yJx35411_checkForComodification_da8c8 [.code yJx35411_checkForComodification_da8c8 cJx35411_checkForComodification_da8c8 1 none] ({ frames := 0, cells := 0, slots := 0, locals := 0 } : Room) (va_Pc [.ref a] (hB l D cy ad b μ P [(a, .inr (12, [.int x, .int r, .int mc, .ref al]))])) (hQ b (fun rv H => rv = none ∧ hW D cy ad b μ P [(a, .inr (12, [.int x, .int r, .int mc, .ref al]))] H)) 0 0 (hA b) := by
  refine va_MetF (cc := cJx35411_checkForComodification_da8c8) (maxL := 1) (ret := none) (by decide +kernel) rfl ?_
  intro p e s m args below meth c s₁ B hml0 hv
  obtain ⟨rfl, E, hM⟩ := hv
  obtain ⟨hx, hb, hml, hown, hlocks, hr⟩ := (gF_of B hml0 : gF p s m meth c cJx35411_checkForComodification_da8c8 RJx35411 1 none)
  have hS : va_S (hA b) s.heap s.heap [] := va_S.rf
  have hl := lv_entry ([.ref a]) (n := 1) (Nat.le_of_ble_eq_true rfl)
  rw [lg_entry_eq]
  generalize (lg_sl ([.ref a]) ++ List.replicate (1 - (lg_sl ([.ref a])).length) Slot.unset).toArray = ls at hl ⊢
  have hl : lv_has ls 1 [(0, .ref a)] := hl
  refine lv_aload_n hx hb dJx35411_checkForComodification_da8c8_0 rfl (lv_at hl 0 rfl) ?_
  refine h_get hx hb hown E hM (ht_m (List.mem_of_getElem? (i := 0) rfl)) gC_Jx35411 3 (by decide) (v := .ref al) rfl kw_1163 dJx35411_checkForComodification_da8c8_1 ?_
  refine h_getU hx hb hown E hM (hp_m hli) gC_Jx4a65c 0 (by decide) (v := .int mc) rfl kw_530 kz_531 dJx35411_checkForComodification_da8c8_4 ?_
  refine lv_aload_n hx hb dJx35411_checkForComodification_da8c8_7 rfl (lv_at hl 0 rfl) ?_
  refine h_get hx hb hown E hM (ht_m (List.mem_of_getElem? (i := 0) rfl)) gC_Jx35411 2 (by decide) (v := .int mc) rfl kw_1162 dJx35411_checkForComodification_da8c8_8 ?_
  refine lv_icmp_eq (tgt := 22) hx hb dJx35411_checkForComodification_da8c8_11 (by decide) (fun c1 => ?_) (fun c1 => ?_)
  · exact h_vret hx hb hr hlocks (Nat.le_of_ble_eq_true rfl) (Nat.le_of_ble_eq_true rfl) ⟨rfl, hM⟩ hS dJx35411_checkForComodification_da8c8_22
  · exact absurd rfl c1
theorem xy_Jx35411_checkForComodification_da8c8 : gYV yJx35411_checkForComodification_da8c8 cJx35411_checkForComodification_da8c8 1 none 0 := ⟨kw_1195, kw_79, kw_1193, kw_1194, ⟨by decide +kernel, by decide +kernel⟩, by decide +kernel⟩
theorem dJx35411_next_0502b_0 : decode cJx35411_next_0502b 0 = .ok (.aload_n 0, 1) := by decide +kernel
theorem dJx35411_next_0502b_1 : decode cJx35411_next_0502b 1 = .ok (.invokevirtual 31, 3) := by decide +kernel
theorem dJx35411_next_0502b_4 : decode cJx35411_next_0502b 4 = .ok (.aload_n 0, 1) := by decide +kernel
theorem dJx35411_next_0502b_5 : decode cJx35411_next_0502b 5 = .ok (.getfield 25, 3) := by decide +kernel
theorem dJx35411_next_0502b_8 : decode cJx35411_next_0502b 8 = .ok (.istore_n 1, 1) := by decide +kernel
theorem dJx35411_next_0502b_9 : decode cJx35411_next_0502b 9 = .ok (.iload_n 1, 1) := by decide +kernel
theorem dJx35411_next_0502b_10 : decode cJx35411_next_0502b 10 = .ok (.aload_n 0, 1) := by decide +kernel
theorem dJx35411_next_0502b_11 : decode cJx35411_next_0502b 11 = .ok (.getfield 1, 3) := by decide +kernel
theorem dJx35411_next_0502b_14 : decode cJx35411_next_0502b 14 = .ok (.getfield 28, 3) := by decide +kernel
theorem dJx35411_next_0502b_17 : decode cJx35411_next_0502b 17 = .ok (.if_icmp .lt 11, 3) := by decide +kernel
theorem dJx35411_next_0502b_20 : decode cJx35411_next_0502b 20 = .ok (.new 34, 3) := by decide +kernel
theorem dJx35411_next_0502b_23 : decode cJx35411_next_0502b 23 = .ok (.dup, 1) := by decide +kernel
theorem dJx35411_next_0502b_24 : decode cJx35411_next_0502b 24 = .ok (.invokespecial 36, 3) := by decide +kernel
theorem dJx35411_next_0502b_27 : decode cJx35411_next_0502b 27 = .ok (.athrow, 1) := by decide +kernel
theorem dJx35411_next_0502b_28 : decode cJx35411_next_0502b 28 = .ok (.aload_n 0, 1) := by decide +kernel
theorem dJx35411_next_0502b_29 : decode cJx35411_next_0502b 29 = .ok (.getfield 1, 3) := by decide +kernel
theorem dJx35411_next_0502b_32 : decode cJx35411_next_0502b 32 = .ok (.getfield 37, 3) := by decide +kernel
theorem dJx35411_next_0502b_35 : decode cJx35411_next_0502b 35 = .ok (.astore_n 2, 1) := by decide +kernel
theorem dJx35411_next_0502b_36 : decode cJx35411_next_0502b 36 = .ok (.iload_n 1, 1) := by decide +kernel
theorem dJx35411_next_0502b_37 : decode cJx35411_next_0502b 37 = .ok (.aload_n 2, 1) := by decide +kernel
theorem dJx35411_next_0502b_38 : decode cJx35411_next_0502b 38 = .ok (.arraylength, 1) := by decide +kernel
theorem dJx35411_next_0502b_39 : decode cJx35411_next_0502b 39 = .ok (.if_icmp .lt 11, 3) := by decide +kernel
theorem dJx35411_next_0502b_42 : decode cJx35411_next_0502b 42 = .ok (.new 41, 3) := by decide +kernel
theorem dJx35411_next_0502b_45 : decode cJx35411_next_0502b 45 = .ok (.dup, 1) := by decide +kernel
theorem dJx35411_next_0502b_46 : decode cJx35411_next_0502b 46 = .ok (.invokespecial 43, 3) := by decide +kernel
theorem dJx35411_next_0502b_49 : decode cJx35411_next_0502b 49 = .ok (.athrow, 1) := by decide +kernel
theorem dJx35411_next_0502b_50 : decode cJx35411_next_0502b 50 = .ok (.aload_n 0, 1) := by decide +kernel
theorem dJx35411_next_0502b_51 : decode cJx35411_next_0502b 51 = .ok (.iload_n 1, 1) := by decide +kernel
theorem dJx35411_next_0502b_52 : decode cJx35411_next_0502b 52 = .ok (.iconst 1, 1) := by decide +kernel
theorem dJx35411_next_0502b_53 : decode cJx35411_next_0502b 53 = .ok (.iadd, 1) := by decide +kernel
theorem dJx35411_next_0502b_54 : decode cJx35411_next_0502b 54 = .ok (.putfield 25, 3) := by decide +kernel
theorem dJx35411_next_0502b_57 : decode cJx35411_next_0502b 57 = .ok (.aload_n 2, 1) := by decide +kernel
theorem dJx35411_next_0502b_58 : decode cJx35411_next_0502b 58 = .ok (.aload_n 0, 1) := by decide +kernel
theorem dJx35411_next_0502b_59 : decode cJx35411_next_0502b 59 = .ok (.iload_n 1, 1) := by decide +kernel
theorem dJx35411_next_0502b_60 : decode cJx35411_next_0502b 60 = .ok (.dup_x1, 1) := by decide +kernel
theorem dJx35411_next_0502b_61 : decode cJx35411_next_0502b 61 = .ok (.putfield 13, 3) := by decide +kernel
theorem dJx35411_next_0502b_64 : decode cJx35411_next_0502b 64 = .ok (.aaload, 1) := by decide +kernel
theorem dJx35411_next_0502b_65 : decode cJx35411_next_0502b 65 = .ok (.areturn, 1) := by decide +kernel
set_option maxHeartbeats 4000000 in
set_option maxRecDepth 100000 in
theorem c_next {l : Launch} {D : va_G} {cy : Nat → ClassId} {ad : Nat → Nat} {b : Nat} {μ : gM} {P : va_W} {al ar n N k v : Nat} {mc : Int32} {g : Nat → Option Nat} {a : Nat} {r : Int32} (hli : (al, .inr (13, [.int mc, .ref ar, .int (nI n)])) ∈ P) (hro : (ar, .inl (cy 4, N, .inr (.inr (.inr (.inr g))))) ∈ P) (hk : k < n) (hn : n < 2 ^ 31) (hN : n ≤ N) (hN2 : N < 2 ^ 31) (hg : g k = some v) : Met l yJx35411_next_0502b [.code yJx35411_next_0502b cJx35411_next_0502b 3 (some (.object "java/lang/Object"))] ({ frames := 1, cells := 0, slots := 0, locals := 20 } : Room) (va_Pc [.ref a] (hB l D cy ad b μ P [(a, .inr (12, [.int (nI k), .int r, .int mc, .ref al]))])) (hQ b (fun rv H => rv = some (.ref v) ∧ hW D cy ad b μ P [(a, .inr (12, [.int (nI (k + 1)), .int (nI k), .int mc, .ref al]))] H)) 0 0 (hA b) := by
  refine va_MetF (cc := cJx35411_next_0502b) (maxL := 3) (ret := (some (.object "java/lang/Object"))) (by decide +kernel) rfl ?_
  intro p e s m args below meth c s₁ B hml0 hv
  obtain ⟨rfl, E, hM⟩ := hv
  obtain ⟨hx, hb, hml, hown, hlocks, hr⟩ := (gF_of B hml0 : gF p s m meth c cJx35411_next_0502b RJx35411 3 (some (.object "java/lang/Object")))
  have hS : va_S (hA b) s.heap s.heap [] := va_S.rf
  have hl := lv_entry ([.ref a]) (n := 3) (Nat.le_of_ble_eq_true rfl)
  rw [lg_entry_eq]
  generalize (lg_sl ([.ref a]) ++ List.replicate (3 - (lg_sl ([.ref a])).length) Slot.unset).toArray = ls at hl ⊢
  have hl : lv_has ls 3 [(0, .ref a)] := hl
  refine lv_aload_n hx hb dJx35411_next_0502b_0 rfl (lv_at hl 0 rfl) ?_
  refine h_callV (As := []) (rest := []) hx hb (hml.trans hl.1.symm) hown E hM hS xy_Jx35411_checkForComodification_da8c8 kw_1192 (c_comod hli) (ht_m (List.mem_of_getElem? (i := 0) rfl)) gC_Jx35411.1 rfl rfl (Nat.le_of_ble_eq_true rfl) ⟨(Nat.le_of_ble_eq_true rfl), (Nat.le_of_ble_eq_true rfl)⟩ ⟨(Nat.le_of_ble_eq_true rfl), (Nat.le_of_ble_eq_true rfl)⟩ dJx35411_next_0502b_1 (fun rv H locs hZ hS => ?_)
  obtain ⟨rfl, hM⟩ := hZ
  refine lv_aload_n hx hb dJx35411_next_0502b_4 rfl (lv_at hl 0 rfl) ?_
  refine h_get hx hb hown E hM (ht_m (List.mem_of_getElem? (i := 0) rfl)) gC_Jx35411 0 (by decide) (v := .int (nI k)) rfl kw_1160 dJx35411_next_0502b_5 ?_
  refine lv_istore_n (lv' := [(1, .int (nI k)), (0, .ref a)]) hx hb dJx35411_next_0502b_8 rfl hl (by decide) rfl (fun ls hl => ?_)
  refine lv_iload_n hx hb dJx35411_next_0502b_9 rfl (lv_at hl 0 rfl) ?_
  refine lv_aload_n hx hb dJx35411_next_0502b_10 rfl (lv_at hl 1 rfl) ?_
  refine h_get hx hb hown E hM (ht_m (List.mem_of_getElem? (i := 0) rfl)) gC_Jx35411 3 (by decide) (v := .ref al) rfl kw_1163 dJx35411_next_0502b_11 ?_
  refine h_getN (host := "java/util/ArrayList") hx hb hown E hM (hp_m hli) gC_Jx4a65c 2 (by decide) (v := .int (nI n)) rfl (List.mem_of_getElem? (i := 0) rfl) dJx35411_next_0502b_14 ?_
  refine lv_icmp_lt (tgt := 28) hx hb dJx35411_next_0502b_17 (by decide) (fun c1 => ?_) (fun c1 => ?_)
  · refine lv_aload_n hx hb dJx35411_next_0502b_28 rfl (lv_at hl 1 rfl) ?_
    refine h_get hx hb hown E hM (ht_m (List.mem_of_getElem? (i := 0) rfl)) gC_Jx35411 3 (by decide) (v := .ref al) rfl kw_1163 dJx35411_next_0502b_29 ?_
    refine h_get hx hb hown E hM (hp_m hli) gC_Jx4a65c 1 (by decide) (v := .ref ar) rfl kw_526 dJx35411_next_0502b_32 ?_
    refine lv_astore_n (lv' := [(2, .ref ar), (1, .int (nI k)), (0, .ref a)]) hx hb dJx35411_next_0502b_35 rfl hl (by decide) rfl (fun ls hl => ?_)
    refine lv_iload_n hx hb dJx35411_next_0502b_36 rfl (lv_at hl 1 rfl) ?_
    refine lv_aload_n hx hb dJx35411_next_0502b_37 rfl (lv_at hl 0 rfl) ?_
    refine h_alen hx hb E hM 4 (ty := .object "java/lang/Object") (hp_m hro) rfl (v := nI N) rfl dJx35411_next_0502b_38 ?_
    refine lv_icmp_lt (tgt := 50) hx hb dJx35411_next_0502b_39 (by decide) (fun c2 => ?_) (fun c2 => ?_)
    · refine lv_aload_n hx hb dJx35411_next_0502b_50 rfl (lv_at hl 2 rfl) ?_
      refine lv_iload_n hx hb dJx35411_next_0502b_51 rfl (lv_at hl 1 rfl) ?_
      refine lv_iconst (v := (1 : Int32)) hx hb dJx35411_next_0502b_52 (by decide) ?_
      refine lv_iadd hx hb dJx35411_next_0502b_53 ?_
      rw [show (nI k + (1 : Int32)) = nI (k + 1) from (nI_1 k)]
      refine h_put (j := 0) hx hb hown E hM hS rfl gC_Jx35411 0 (by decide) rfl (tyJx35411_ok 0 (by decide)) rfl rfl kw_1160 (Nat.le_of_ble_eq_true rfl) dJx35411_next_0502b_54 (fun H locs hM hS => ?_)
      replace hM : hW D cy ad b μ P [(a, .inr (12, [.int (nI (k + 1)), .int r, .int mc, .ref al]))] H := hM
      refine lv_aload_n hx hb dJx35411_next_0502b_57 rfl (lv_at hl 0 rfl) ?_
      refine lv_aload_n hx hb dJx35411_next_0502b_58 rfl (lv_at hl 2 rfl) ?_
      refine lv_iload_n hx hb dJx35411_next_0502b_59 rfl (lv_at hl 1 rfl) ?_
      refine lv_dup_x1 hx hb dJx35411_next_0502b_60 rfl rfl ?_
      refine h_put (j := 0) hx hb hown E hM hS rfl gC_Jx35411 1 (by decide) rfl (tyJx35411_ok 1 (by decide)) rfl rfl kw_1161 (Nat.le_of_ble_eq_true rfl) dJx35411_next_0502b_61 (fun H locs hM hS => ?_)
      replace hM : hW D cy ad b μ P [(a, .inr (12, [.int (nI (k + 1)), .int (nI k), .int mc, .ref al]))] H := hM
      refine h_aald hx hb E hM (hp_m hro) (i := nI k) (x_in (by omega) hN2) (v := .ref v) (x_rf (by omega) hg) dJx35411_next_0502b_64 ?_
      exact h_aret hx hb hr (Or.inl ⟨_, rfl⟩) hlocks (Nat.le_of_ble_eq_true rfl) (Nat.le_of_ble_eq_true rfl) ⟨rfl, hM⟩ hS dJx35411_next_0502b_65
    · exact absurd (nI_lt (by omega) hN2) c2
  · exact absurd (nI_lt hk hn) c1

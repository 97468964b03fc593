set_option maxHeartbeats 4000000 in
set_option maxRecDepth 100000 in
theorem c_pchkR {l : Launch} {D : va_G} {cy : Nat → ClassId} {ad : Nat → Nat} {b : Nat} {μ : gM} {P : va_W} {k n o9 : Nat} (hk : k < n) (hn : n < 2 ^ 31) : Met l yJ3_checkIndex_8e157 [.code yJ3_checkIndex_8e157 cJ3_checkIndex_8e157 3 (some .int)] ({ frames := 0, cells := 0, slots := 0, locals := 0 } : Room) (va_Pc [.int (nI k), .int (nI n), .ref o9] (hB l D cy ad b μ P [])) (hQ b (fun rv H => rv = some (.int (nI k)) ∧ hW D cy ad b μ P [] H)) 0 0 (hA b) := by
  refine va_MetF (cc := cJ3_checkIndex_8e157) (maxL := 3) (ret := (some .int)) (by decide +kernel) rfl ?_
  intro p e s m args below meth c s₁ B hml0 hv
  obtain ⟨rfl, E, hM⟩ := hv
  obtain ⟨hx, hb, hml, hown, hlocks, hr⟩ := (gF_of B hml0 : gF p s m meth c cJ3_checkIndex_8e157 RJ3 3 (some .int))
  have hS : va_S (hA b) s.heap s.heap [] := va_S.rf
  have hl := lv_entry ([.int (nI k), .int (nI n), .ref o9]) (n := 3) (Nat.le_of_ble_eq_true rfl)
  rw [lg_entry_eq]
  generalize (lg_sl ([.int (nI k), .int (nI n), .ref o9]) ++ List.replicate (3 - (lg_sl ([.int (nI k), .int (nI n), .ref o9])).length) Slot.unset).toArray = ls at hl ⊢
  have hl : lv_has ls 3 [(0, .int (nI k)), (1, .int (nI n)), (2, .ref o9)] := hl
  refine lv_iload_n hx hb dJ3_checkIndex_8e157_0 rfl (lv_at hl 0 rfl) ?_
  refine lv_if_lt (tgt := 9) hx hb dJ3_checkIndex_8e157_1 (by decide) (fun c1 => ?_) (fun c1 => ?_)
  · exact absurd c1 (nI_pos (by omega))
  · refine lv_iload_n hx hb dJ3_checkIndex_8e157_4 rfl (lv_at hl 0 rfl) ?_
    refine lv_iload_n hx hb dJ3_checkIndex_8e157_5 rfl (lv_at hl 1 rfl) ?_
    refine lv_icmp_lt (tgt := 16) hx hb dJ3_checkIndex_8e157_6 (by decide) (fun c2 => ?_) (fun c2 => ?_)
    · refine lv_iload_n hx hb dJ3_checkIndex_8e157_16 rfl (lv_at hl 0 rfl) ?_
      exact h_iret hx hb hr hlocks (Nat.le_of_ble_eq_true rfl) (Nat.le_of_ble_eq_true rfl) ⟨rfl, hM⟩ hS dJ3_checkIndex_8e157_17
    · exact absurd (nI_lt hk hn) c2
theorem dJ0_checkIndex_df160_0 : decode cJ0_checkIndex_df160 0 = .ok (.iload_n 0, 1) := by decide +kernel
theorem dJ0_checkIndex_df160_1 : decode cJ0_checkIndex_df160 1 = .ok (.iload_n 1, 1) := by decide +kernel
theorem dJ0_checkIndex_df160_2 : decode cJ0_checkIndex_df160 2 = .ok (.getstatic 1053, 3) := by decide +kernel
theorem dJ0_checkIndex_df160_5 : decode cJ0_checkIndex_df160 5 = .ok (.invokestatic 1059, 3) := by decide +kernel
theorem dJ0_checkIndex_df160_8 : decode cJ0_checkIndex_df160 8 = .ok (.pop, 1) := by decide +kernel
theorem dJ0_checkIndex_df160_9 : decode cJ0_checkIndex_df160 9 = .ok (.return_, 1) := by decide +kernel
set_option maxHeartbeats 4000000 in
set_option maxRecDepth 100000 in
theorem c_sidx {l : Launch} {D : va_G} {cy : Nat → ClassId} {ad : Nat → Nat} {b : Nat} {μ : gM} {P : va_W} {k n : Nat} (hk : k < n) (hn : n < 2 ^ 31) : Met l yJ0_checkIndex_df160 [.code yJ0_checkIndex_df160 cJ0_checkIndex_df160 2 none] ({ frames := 1, cells := 0, slots := 0, locals := 22 } : Room) (va_Pc [.int (nI k), .int (nI n)] (hB l D cy ad b μ P [])) (hQ b (fun rv H => rv = none ∧ hW D cy ad b μ P [] H)) 0 0 (hA b) := by
  refine va_MetF (cc := cJ0_checkIndex_df160) (maxL := 2) (ret := none) (by decide +kernel) rfl ?_
  intro p e s m args below meth c s₁ B hml0 hv
  obtain ⟨rfl, E, hM⟩ := hv
  obtain ⟨hx, hb, hml, hown, hlocks, hr⟩ := (gF_of B hml0 : gF p s m meth c cJ0_checkIndex_df160 RJ0 2 none)
  have hS : va_S (hA b) s.heap s.heap [] := va_S.rf
  have hl := lv_entry ([.int (nI k), .int (nI n)]) (n := 2) (Nat.le_of_ble_eq_true rfl)
  rw [lg_entry_eq]
  generalize (lg_sl ([.int (nI k), .int (nI n)]) ++ List.replicate (2 - (lg_sl ([.int (nI k), .int (nI n)])).length) Slot.unset).toArray = ls at hl ⊢
  have hl : lv_has ls 2 [(0, .int (nI k)), (1, .int (nI n))] := hl
  refine lv_iload_n hx hb dJ0_checkIndex_df160_0 rfl (lv_at hl 0 rfl) ?_
  refine lv_iload_n hx hb dJ0_checkIndex_df160_1 rfl (lv_at hl 1 rfl) ?_
  obtain ⟨o1, ho2⟩ := E.x.2.2.2.2.1
  cases o1 with
  | none =>
    refine va_gets (v := .null) hx hb ho2 hS hown (E.kw kw_642) (fun _ h9 => h9) dJ0_checkIndex_df160_2 ?_
    refine h_callS (As := [.int (nI k), .int (nI n), .null]) (rest := []) hx hb (hml.trans hl.1.symm) hown E hM hS xs_J3_checkIndex_8e157 kw_805 (c_pchk hk hn) rfl rfl (Nat.le_of_ble_eq_true rfl) ⟨(Nat.le_of_ble_eq_true rfl), (Nat.le_of_ble_eq_true rfl)⟩ ⟨(Nat.le_of_ble_eq_true rfl), (Nat.le_of_ble_eq_true rfl)⟩ dJ0_checkIndex_df160_5 (fun rv H locs hZ hS => ?_)
    obtain ⟨rfl, hM⟩ := hZ
    refine lv_pop hx hb dJ0_checkIndex_df160_8 rfl ?_
    exact h_vret hx hb hr hlocks (Nat.le_of_ble_eq_true rfl) (Nat.le_of_ble_eq_true rfl) ⟨rfl, hM⟩ hS dJ0_checkIndex_df160_9
  | some o1 =>
    refine va_gets (v := .ref o1) hx hb ho2 hS hown (E.kw kw_642) (fun _ h9 => h9) dJ0_checkIndex_df160_2 ?_
    refine h_callS (As := [.int (nI k), .int (nI n), .ref o1]) (rest := []) hx hb (hml.trans hl.1.symm) hown E hM hS xs_J3_checkIndex_8e157 kw_805 (c_pchkR hk hn) rfl rfl (Nat.le_of_ble_eq_true rfl) ⟨(Nat.le_of_ble_eq_true rfl), (Nat.le_of_ble_eq_true rfl)⟩ ⟨(Nat.le_of_ble_eq_true rfl), (Nat.le_of_ble_eq_true rfl)⟩ dJ0_checkIndex_df160_5 (fun rv H locs hZ hS => ?_)
    obtain ⟨rfl, hM⟩ := hZ
    refine lv_pop hx hb dJ0_checkIndex_df160_8 rfl ?_
    exact h_vret hx hb hr hlocks (Nat.le_of_ble_eq_true rfl) (Nat.le_of_ble_eq_true rfl) ⟨rfl, hM⟩ hS dJ0_checkIndex_df160_9
theorem xs_J0_checkIndex_df160 : gYS yJ0_checkIndex_df160 cJ0_checkIndex_df160 2 none 2 := ⟨kw_804, kw_64, kw_803, ⟨by decide +kernel, by decide +kernel⟩, by decide +kernel⟩
theorem dJ1_charAt_3b067_0 : decode cJ1_charAt_3b067 0 = .ok (.iload_n 1, 1) := by decide +kernel
theorem dJ1_charAt_3b067_1 : decode cJ1_charAt_3b067 1 = .ok (.aload_n 0, 1) := by decide +kernel
theorem dJ1_charAt_3b067_2 : decode cJ1_charAt_3b067 2 = .ok (.arraylength, 1) := by decide +kernel
theorem dJ1_charAt_3b067_3 : decode cJ1_charAt_3b067 3 = .ok (.invokestatic 9, 3) := by decide +kernel
theorem dJ1_charAt_3b067_6 : decode cJ1_charAt_3b067 6 = .ok (.aload_n 0, 1) := by decide +kernel
theorem dJ1_charAt_3b067_7 : decode cJ1_charAt_3b067 7 = .ok (.iload_n 1, 1) := by decide +kernel
theorem dJ1_charAt_3b067_8 : decode cJ1_charAt_3b067 8 = .ok (.baload, 1) := by decide +kernel
theorem dJ1_charAt_3b067_9 : decode cJ1_charAt_3b067 9 = .ok (.sipush 255, 3) := by decide +kernel
theorem dJ1_charAt_3b067_12 : decode cJ1_charAt_3b067 12 = .ok (.iand, 1) := by decide +kernel
theorem dJ1_charAt_3b067_13 : decode cJ1_charAt_3b067 13 = .ok (.i2c, 1) := by decide +kernel
theorem dJ1_charAt_3b067_14 : decode cJ1_charAt_3b067 14 = .ok (.ireturn, 1) := by decide +kernel
set_option maxHeartbeats 4000000 in
set_option maxRecDepth 100000 in
theorem c_l1ch {l : Launch} {D : va_G} {cy : Nat → ClassId} {ad : Nat → Nat} {b : Nat} {μ : gM} {P : va_W} {va i : Nat} {S : List Nat} (hv : (va, .inl (cy 2, S.length, .inl (sby S))) ∈ P) (hi : i < S.length) (hSl : S.length < 2 ^ 30) (h9 : S.getD i 0 < 256) : Met l yJ1_charAt_3b067 [.code yJ1_charAt_3b067 cJ1_charAt_3b067 2 (some .char)] ({ frames := 2, cells := 0, slots := 0, locals := 43 } : Room) (va_Pc [.ref va, .int (nI i)] (hB l D cy ad b μ P [])) (hQ b (fun rv H => rv = some (.int (nI (S.getD i 0))) ∧ hW D cy ad b μ P [] H)) 0 0 (hA b) := by
  refine va_MetF (cc := cJ1_charAt_3b067) (maxL := 2) (ret := (some .char)) (by decide +kernel) rfl ?_
  intro p e s m args below meth c s₁ B hml0 hv
  obtain ⟨rfl, E, hM⟩ := hv
  obtain ⟨hx, hb, hml, hown, hlocks, hr⟩ := (gF_of B hml0 : gF p s m meth c cJ1_charAt_3b067 RJ1 2 (some .char))
  have hS : va_S (hA b) s.heap s.heap [] := va_S.rf
  have hl := lv_entry ([.ref va, .int (nI i)]) (n := 2) (Nat.le_of_ble_eq_true rfl)
  rw [lg_entry_eq]
  generalize (lg_sl ([.ref va, .int (nI i)]) ++ List.replicate (2 - (lg_sl ([.ref va, .int (nI i)])).length) Slot.unset).toArray = ls at hl ⊢
  have hl : lv_has ls 2 [(0, .ref va), (1, .int (nI i))] := hl
  refine lv_iload_n hx hb dJ1_charAt_3b067_0 rfl (lv_at hl 1 rfl) ?_
  refine lv_aload_n hx hb dJ1_charAt_3b067_1 rfl (lv_at hl 0 rfl) ?_
  refine h_alen hx hb E hM 2 (ty := .byte) (hp_m hv) rfl (v := nI S.length) rfl dJ1_charAt_3b067_2 ?_
  refine h_callS (As := [.int (nI i), .int (nI S.length)]) (rest := []) hx hb (hml.trans hl.1.symm) hown E hM hS xs_J0_checkIndex_df160 kw_898 (c_sidx hi (by omega)) rfl rfl (Nat.le_of_ble_eq_true rfl) ⟨(Nat.le_of_ble_eq_true rfl), (Nat.le_of_ble_eq_true rfl)⟩ ⟨(Nat.le_of_ble_eq_true rfl), (Nat.le_of_ble_eq_true rfl)⟩ dJ1_charAt_3b067_3 (fun rv H locs hZ hS => ?_)
  obtain ⟨rfl, hM⟩ := hZ
  refine lv_aload_n hx hb dJ1_charAt_3b067_6 rfl (lv_at hl 0 rfl) ?_
  refine lv_iload_n hx hb dJ1_charAt_3b067_7 rfl (lv_at hl 1 rfl) ?_
  refine h_bald hx hb E hM (hp_m hv) (i := nI i) (x_in hi (by omega)) dJ1_charAt_3b067_8 ?_
  rw [nI_clamp (by omega)]
  refine lv_sipush (v := (255 : Int32)) hx hb dJ1_charAt_3b067_9 (by decide) ?_
  refine lv_iand hx hb dJ1_charAt_3b067_12 ?_
  rw [show ((sby S i) &&& (255 : Int32)) = nI (S.getD i 0) from (sb_byte _ h9).1]
  refine lv_i2c (v := nI (S.getD i 0)) hx hb dJ1_charAt_3b067_13 ((sb_byte _ h9).2.1) ?_
  exact h_nret hx hb hr hlocks (Nat.le_of_ble_eq_true rfl) (Nat.le_of_ble_eq_true rfl) (congrArg Value.int (sb_byte _ h9).2.1) ⟨rfl, hM⟩ hS dJ1_charAt_3b067_14
theorem xy_J0_isLatin1_aae02 : gYV yJ0_isLatin1_aae02 cJ0_isLatin1_aae02 1 (some .boolean) 0 := ⟨kw_894, kw_64, kw_892, kw_893, ⟨by decide +kernel, by decide +kernel⟩, by decide +kernel⟩
theorem xs_J1_charAt_3b067 : gYS yJ1_charAt_3b067 cJ1_charAt_3b067 2 (some .char) 2 := ⟨kw_897, kw_71, kw_896, ⟨by decide +kernel, by decide +kernel⟩, by decide +kernel⟩
theorem dJ0_charAt_5068e_0 : decode cJ0_charAt_5068e 0 = .ok (.aload_n 0, 1) := by decide +kernel
theorem dJ0_charAt_5068e_1 : decode cJ0_charAt_5068e 1 = .ok (.invokevirtual 492, 3) := by decide +kernel
theorem dJ0_charAt_5068e_4 : decode cJ0_charAt_5068e 4 = .ok (.ifCond .eq 12, 3) := by decide +kernel
theorem dJ0_charAt_5068e_7 : decode cJ0_charAt_5068e 7 = .ok (.aload_n 0, 1) := by decide +kernel
theorem dJ0_charAt_5068e_8 : decode cJ0_charAt_5068e 8 = .ok (.getfield 9, 3) := by decide +kernel
theorem dJ0_charAt_5068e_11 : decode cJ0_charAt_5068e 11 = .ok (.iload_n 1, 1) := by decide +kernel
theorem dJ0_charAt_5068e_12 : decode cJ0_charAt_5068e 12 = .ok (.invokestatic 495, 3) := by decide +kernel
theorem dJ0_charAt_5068e_15 : decode cJ0_charAt_5068e 15 = .ok (.ireturn, 1) := by decide +kernel
theorem dJ0_charAt_5068e_16 : decode cJ0_charAt_5068e 16 = .ok (.aload_n 0, 1) := by decide +kernel
theorem dJ0_charAt_5068e_17 : decode cJ0_charAt_5068e 17 = .ok (.getfield 9, 3) := by decide +kernel
theorem dJ0_charAt_5068e_20 : decode cJ0_charAt_5068e 20 = .ok (.iload_n 1, 1) := by decide +kernel
theorem dJ0_charAt_5068e_21 : decode cJ0_charAt_5068e 21 = .ok (.invokestatic 498, 3) := by decide +kernel
theorem dJ0_charAt_5068e_24 : decode cJ0_charAt_5068e 24 = .ok (.ireturn, 1) := by decide +kernel
set_option maxHeartbeats 4000000 in
set_option maxRecDepth 100000 in
theorem c_char {l : Launch} {D : va_G} {cy : Nat → ClassId} {ad : Nat → Nat} {b : Nat} {μ : gM} {P : va_W} {sa va i : Nat} {S : List Nat} (hs : sSrc cy ad P sa va S) (hv : (va, .inl (cy 2, S.length, .inl (sby S))) ∈ P) (hi : i < S.length) (hSl : S.length < 2 ^ 30) (h9 : S.getD i 0 < 256) : Met l yJ0_charAt_5068e [.code yJ0_charAt_5068e cJ0_charAt_5068e 2 (some .char)] ({ frames := 3, cells := 0, slots := 0, locals := 64 } : Room) (va_Pc [.ref sa, .int (nI i)] (hB l D cy ad b μ P [])) (hQ b (fun rv H => rv = some (.int (nI (S.getD i 0))) ∧ hW D cy ad b μ P [] H)) 0 0 (hA b) := by
  refine va_MetF (cc := cJ0_charAt_5068e) (maxL := 2) (ret := (some .char)) (by decide +kernel) rfl ?_
  intro p e s m args below meth c s₁ B hml0 hv
  obtain ⟨rfl, E, hM⟩ := hv
  obtain ⟨hx, hb, hml, hown, hlocks, hr⟩ := (gF_of B hml0 : gF p s m meth c cJ0_charAt_5068e RJ0 2 (some .char))
  have hS : va_S (hA b) s.heap s.heap [] := va_S.rf
  have hl := lv_entry ([.ref sa, .int (nI i)]) (n := 2) (Nat.le_of_ble_eq_true rfl)
  rw [lg_entry_eq]
  generalize (lg_sl ([.ref sa, .int (nI i)]) ++ List.replicate (2 - (lg_sl ([.ref sa, .int (nI i)])).length) Slot.unset).toArray = ls at hl ⊢
  have hl : lv_has ls 2 [(0, .ref sa), (1, .int (nI i))] := hl
  refine lv_aload_n hx hb dJ0_charAt_5068e_0 rfl (lv_at hl 0 rfl) ?_
  refine h_callK (As := []) (rest := []) hx hb (hml.trans hl.1.symm) hown E hM hS hs rfl xy_J0_isLatin1_aae02 kw_891 (c_slat hs) rfl rfl (Nat.le_of_ble_eq_true rfl) ⟨(Nat.le_of_ble_eq_true rfl), (Nat.le_of_ble_eq_true rfl)⟩ ⟨(Nat.le_of_ble_eq_true rfl), (Nat.le_of_ble_eq_true rfl)⟩ dJ0_charAt_5068e_1 (fun rv H locs hZ hS => ?_)
  obtain ⟨rfl, hM⟩ := hZ
  refine lv_if_eq (tgt := 16) hx hb dJ0_charAt_5068e_4 (by decide) (fun c1 => ?_) (fun c1 => ?_)
  · exact absurd c1 (by decide)
  · refine lv_aload_n hx hb dJ0_charAt_5068e_7 rfl (lv_at hl 0 rfl) ?_
    refine s_val hx hb hown E hM hS hs kw_774 dJ0_charAt_5068e_8 ?_
    refine lv_iload_n hx hb dJ0_charAt_5068e_11 rfl (lv_at hl 1 rfl) ?_
    refine h_callS (As := [.ref va, .int (nI i)]) (rest := []) hx hb (hml.trans hl.1.symm) hown E hM hS xs_J1_charAt_3b067 kw_895 (c_l1ch hv hi hSl h9) rfl rfl (Nat.le_of_ble_eq_true rfl) ⟨(Nat.le_of_ble_eq_true rfl), (Nat.le_of_ble_eq_true rfl)⟩ ⟨(Nat.le_of_ble_eq_true rfl), (Nat.le_of_ble_eq_true rfl)⟩ dJ0_charAt_5068e_12 (fun rv H locs hZ hS => ?_)
    obtain ⟨rfl, hM⟩ := hZ
    exact h_nret hx hb hr hlocks (Nat.le_of_ble_eq_true rfl) (Nat.le_of_ble_eq_true rfl) (congrArg Value.int (sb_byte _ h9).2.1) ⟨rfl, hM⟩ hS dJ0_charAt_5068e_15

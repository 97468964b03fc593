theorem sby_b8 {ch : Nat} : ((nI ch).toInt8.toInt32).toInt8.toInt32 = sb_b ch := by
  rw [Int8.toInt8_toInt32]; rfl
theorem x_rot3 {α : Type} (x1 x2 x3 : α) : [x1, x2, x3].Perm [x3, x1, x2] := (List.Perm.cons _ (List.Perm.swap x3 x2 [])).trans (List.Perm.swap x3 x1 [x2])
theorem x_rot4 {α : Type} (x3 x1 x2 x4 : α) : [x3, x1, x2, x4].Perm [x1, x2, x3, x4] := (List.Perm.swap x1 x3 [x2, x4]).trans (List.Perm.cons _ (List.Perm.swap x2 x3 [x4]))
theorem dJ1_canEncode_fc78d_0 : decode cJ1_canEncode_fc78d 0 = .ok (.iload_n 0, 1) := by decide +kernel
theorem dJ1_canEncode_fc78d_1 : decode cJ1_canEncode_fc78d 1 = .ok (.sipush 255, 3) := by decide +kernel
theorem dJ1_canEncode_fc78d_4 : decode cJ1_canEncode_fc78d 4 = .ok (.if_icmp .gt 7, 3) := by decide +kernel
theorem dJ1_canEncode_fc78d_7 : decode cJ1_canEncode_fc78d 7 = .ok (.iconst 1, 1) := by decide +kernel
theorem dJ1_canEncode_fc78d_8 : decode cJ1_canEncode_fc78d 8 = .ok (.goto 4, 3) := by decide +kernel
theorem dJ1_canEncode_fc78d_11 : decode cJ1_canEncode_fc78d 11 = .ok (.iconst 0, 1) := by decide +kernel
theorem dJ1_canEncode_fc78d_12 : decode cJ1_canEncode_fc78d 12 = .ok (.ireturn, 1) := by decide +kernel
set_option maxHeartbeats 4000000 in
set_option maxRecDepth 100000 in
theorem c_canE {l : Launch} {D : va_G} {cy : Nat → ClassId} {ad : Nat → Nat} {b : Nat} {μ : gM} {P : va_W} {ch : Nat} (hch : ch < 256) : Met l yJ1_canEncode_fc78d [.code yJ1_canEncode_fc78d cJ1_canEncode_fc78d 1 (some .boolean)] ({ frames := 0, cells := 0, slots := 0, locals := 0 } : Room) (va_Pc [.int (nI ch)] (hB l D cy ad b μ P [])) (hQ b (fun rv H => rv = some (.int 1) ∧ hW D cy ad b μ P [] H)) 0 0 (hA b) := by
  refine va_MetF (cc := cJ1_canEncode_fc78d) (maxL := 1) (ret := (some .boolean)) (by decide +kernel) rfl ?_
  intro p e s m args below meth c s₁ B hml0 hv
  obtain ⟨rfl, E, hM⟩ := hv
  obtain ⟨hx, hb, hml, hown, hlocks, hr⟩ := (gF_of B hml0 : gF p s m meth c cJ1_canEncode_fc78d RJ1 1 (some .boolean))
  have hS : va_S (hA b) s.heap s.heap [] := va_S.rf
  have hl := lv_entry ([.int (nI ch)]) (n := 1) (Nat.le_of_ble_eq_true rfl)
  rw [lg_entry_eq]
  generalize (lg_sl ([.int (nI ch)]) ++ List.replicate (1 - (lg_sl ([.int (nI ch)])).length) Slot.unset).toArray = ls at hl ⊢
  have hl : lv_has ls 1 [(0, .int (nI ch))] := hl
  refine lv_iload_n hx hb dJ1_canEncode_fc78d_0 rfl (lv_at hl 0 rfl) ?_
  refine lv_sipush (v := (255 : Int32)) hx hb dJ1_canEncode_fc78d_1 (by decide) ?_
  refine lv_icmp_gt (tgt := 11) hx hb dJ1_canEncode_fc78d_4 (by decide) (fun c1 => ?_) (fun c1 => ?_)
  · exact absurd c1 (nI_nlt (b := ch) (a := 255) (by omega) (by omega))
  · refine lv_iconst (v := (1 : Int32)) hx hb dJ1_canEncode_fc78d_7 (by decide) ?_
    refine lv_goto (tgt := 12) hx hb dJ1_canEncode_fc78d_8 (by decide) ?_
    exact h_zret hx hb hr hlocks (Nat.le_of_ble_eq_true rfl) (Nat.le_of_ble_eq_true rfl) rfl ⟨rfl, hM⟩ hS dJ1_canEncode_fc78d_12
theorem xu_J5_isLatin1_aae02 : gYU "java/lang/StringBuilder" yJ5_isLatin1_aae02 yJ5_isLatin1_aae02 cJ5_isLatin1_aae02 1 (some .boolean) 0 := ⟨kw_629, kw_62, kw_626, ⟨by decide +kernel, by decide +kernel⟩, by decide +kernel, kz_627, _, _, _, kw_626, kw_629⟩
theorem xs_J1_canEncode_fc78d : gYS yJ1_canEncode_fc78d cJ1_canEncode_fc78d 1 (some .boolean) 1 := ⟨kw_795, kw_71, kw_794, ⟨by decide +kernel, by decide +kernel⟩, by decide +kernel⟩
theorem dJ5_append_3fe6f_0 : decode cJ5_append_3fe6f 0 = .ok (.aload_n 0, 1) := by decide +kernel
theorem dJ5_append_3fe6f_1 : decode cJ5_append_3fe6f 1 = .ok (.aload_n 0, 1) := by decide +kernel
theorem dJ5_append_3fe6f_2 : decode cJ5_append_3fe6f 2 = .ok (.getfield 79, 3) := by decide +kernel
theorem dJ5_append_3fe6f_5 : decode cJ5_append_3fe6f 5 = .ok (.iconst 1, 1) := by decide +kernel
theorem dJ5_append_3fe6f_6 : decode cJ5_append_3fe6f 6 = .ok (.iadd, 1) := by decide +kernel
theorem dJ5_append_3fe6f_7 : decode cJ5_append_3fe6f 7 = .ok (.invokevirtual 100, 3) := by decide +kernel
theorem dJ5_append_3fe6f_10 : decode cJ5_append_3fe6f 10 = .ok (.aload_n 0, 1) := by decide +kernel
theorem dJ5_append_3fe6f_11 : decode cJ5_append_3fe6f 11 = .ok (.invokevirtual 83, 3) := by decide +kernel
theorem dJ5_append_3fe6f_14 : decode cJ5_append_3fe6f 14 = .ok (.ifCond .eq 31, 3) := by decide +kernel
theorem dJ5_append_3fe6f_17 : decode cJ5_append_3fe6f 17 = .ok (.iload_n 1, 1) := by decide +kernel
theorem dJ5_append_3fe6f_18 : decode cJ5_append_3fe6f 18 = .ok (.invokestatic 191, 3) := by decide +kernel
theorem dJ5_append_3fe6f_21 : decode cJ5_append_3fe6f 21 = .ok (.ifCond .eq 24, 3) := by decide +kernel
theorem dJ5_append_3fe6f_24 : decode cJ5_append_3fe6f 24 = .ok (.aload_n 0, 1) := by decide +kernel
theorem dJ5_append_3fe6f_25 : decode cJ5_append_3fe6f 25 = .ok (.getfield 15, 3) := by decide +kernel
theorem dJ5_append_3fe6f_28 : decode cJ5_append_3fe6f 28 = .ok (.aload_n 0, 1) := by decide +kernel
theorem dJ5_append_3fe6f_29 : decode cJ5_append_3fe6f 29 = .ok (.dup, 1) := by decide +kernel
theorem dJ5_append_3fe6f_30 : decode cJ5_append_3fe6f 30 = .ok (.getfield 79, 3) := by decide +kernel
theorem dJ5_append_3fe6f_33 : decode cJ5_append_3fe6f 33 = .ok (.dup_x1, 1) := by decide +kernel
theorem dJ5_append_3fe6f_34 : decode cJ5_append_3fe6f 34 = .ok (.iconst 1, 1) := by decide +kernel
theorem dJ5_append_3fe6f_35 : decode cJ5_append_3fe6f 35 = .ok (.iadd, 1) := by decide +kernel
theorem dJ5_append_3fe6f_36 : decode cJ5_append_3fe6f 36 = .ok (.putfield 79, 3) := by decide +kernel
theorem dJ5_append_3fe6f_39 : decode cJ5_append_3fe6f 39 = .ok (.iload_n 1, 1) := by decide +kernel
theorem dJ5_append_3fe6f_40 : decode cJ5_append_3fe6f 40 = .ok (.i2b, 1) := by decide +kernel
theorem dJ5_append_3fe6f_41 : decode cJ5_append_3fe6f 41 = .ok (.bastore, 1) := by decide +kernel
theorem dJ5_append_3fe6f_42 : decode cJ5_append_3fe6f 42 = .ok (.goto 33, 3) := by decide +kernel
theorem dJ5_append_3fe6f_45 : decode cJ5_append_3fe6f 45 = .ok (.aload_n 0, 1) := by decide +kernel
theorem dJ5_append_3fe6f_46 : decode cJ5_append_3fe6f 46 = .ok (.invokevirtual 83, 3) := by decide +kernel
theorem dJ5_append_3fe6f_49 : decode cJ5_append_3fe6f 49 = .ok (.ifCond .eq 7, 3) := by decide +kernel
theorem dJ5_append_3fe6f_52 : decode cJ5_append_3fe6f 52 = .ok (.aload_n 0, 1) := by decide +kernel
theorem dJ5_append_3fe6f_53 : decode cJ5_append_3fe6f 53 = .ok (.invokevirtual 195, 3) := by decide +kernel
theorem dJ5_append_3fe6f_56 : decode cJ5_append_3fe6f 56 = .ok (.aload_n 0, 1) := by decide +kernel
theorem dJ5_append_3fe6f_57 : decode cJ5_append_3fe6f 57 = .ok (.getfield 15, 3) := by decide +kernel
theorem dJ5_append_3fe6f_60 : decode cJ5_append_3fe6f 60 = .ok (.aload_n 0, 1) := by decide +kernel
theorem dJ5_append_3fe6f_61 : decode cJ5_append_3fe6f 61 = .ok (.dup, 1) := by decide +kernel
theorem dJ5_append_3fe6f_62 : decode cJ5_append_3fe6f 62 = .ok (.getfield 79, 3) := by decide +kernel
theorem dJ5_append_3fe6f_65 : decode cJ5_append_3fe6f 65 = .ok (.dup_x1, 1) := by decide +kernel
theorem dJ5_append_3fe6f_66 : decode cJ5_append_3fe6f 66 = .ok (.iconst 1, 1) := by decide +kernel
theorem dJ5_append_3fe6f_67 : decode cJ5_append_3fe6f 67 = .ok (.iadd, 1) := by decide +kernel
theorem dJ5_append_3fe6f_68 : decode cJ5_append_3fe6f 68 = .ok (.putfield 79, 3) := by decide +kernel
theorem dJ5_append_3fe6f_71 : decode cJ5_append_3fe6f 71 = .ok (.iload_n 1, 1) := by decide +kernel
theorem dJ5_append_3fe6f_72 : decode cJ5_append_3fe6f 72 = .ok (.invokestatic 197, 3) := by decide +kernel
theorem dJ5_append_3fe6f_75 : decode cJ5_append_3fe6f 75 = .ok (.aload_n 0, 1) := by decide +kernel
theorem dJ5_append_3fe6f_76 : decode cJ5_append_3fe6f 76 = .ok (.areturn, 1) := by decide +kernel
set_option maxHeartbeats 4000000 in
set_option maxRecDepth 100000 in
theorem c_appCA {l : Launch} {D : va_G} {cy : Nat → ClassId} {ad : Nat → Nat} {b : Nat} {μ : gM} {P : va_W} {ba vb w ch : Nat} {ml : Int32} {U : List Nat} (hch : ch < 256) (hlen : U.length + 1 ≤ 1024) (hUw : U.length ≤ w) (hw2 : w ≤ 2056) : Met l yJ5_append_3fe6f [.code yJ5_append_3fe6f cJ5_append_3fe6f 2 (some (.object "java/lang/AbstractStringBuilder"))] ({ frames := 4, cells := 1, slots := 2056, locals := 94 } : Room) (va_Pc [.ref ba, .int (nI ch)] (hB l D cy ad b μ P [(ba, .inr (10, [.ref vb, .int (0 : Int32), .int ml, .int (nI U.length)])), (vb, .inl (cy 2, w, .inl (sby U)))])) (hQ b (fun rv H => ∃ vb2 w2 : Nat, rv = some (.ref ba) ∧ ((U ++ [ch]).length ≤ w2 ∧ w2 ≤ 2056) ∧ hW D cy ad b μ P (sB cy ba vb2 w2 ml (U ++ [ch])) H)) 1 2056 (hA b) := by
  refine va_MetF (cc := cJ5_append_3fe6f) (maxL := 2) (ret := (some (.object "java/lang/AbstractStringBuilder"))) (by decide +kernel) rfl ?_
  intro p e s m args below meth c s₁ B hml0 hv
  obtain ⟨rfl, E, hM⟩ := hv
  obtain ⟨hx, hb, hml, hown, hlocks, hr⟩ := (gF_of B hml0 : gF p s m meth c cJ5_append_3fe6f RJ5 2 (some (.object "java/lang/AbstractStringBuilder")))
  have hS : va_S (hA b) s.heap s.heap [] := va_S.rf
  have hl := lv_entry ([.ref ba, .int (nI ch)]) (n := 2) (Nat.le_of_ble_eq_true rfl)
  rw [lg_entry_eq]
  generalize (lg_sl ([.ref ba, .int (nI ch)]) ++ List.replicate (2 - (lg_sl ([.ref ba, .int (nI ch)])).length) Slot.unset).toArray = ls at hl ⊢
  have hl : lv_has ls 2 [(0, .ref ba), (1, .int (nI ch))] := hl
  refine lv_aload_n hx hb dJ5_append_3fe6f_0 rfl (lv_at hl 0 rfl) ?_
  refine lv_aload_n hx hb dJ5_append_3fe6f_1 rfl (lv_at hl 0 rfl) ?_
  refine h_get hx hb hown E hM (ht_m (List.mem_of_getElem? (i := 0) rfl)) gC_J4 3 (by decide) (v := .int (nI U.length)) rfl kw_570 dJ5_append_3fe6f_2 ?_
  refine lv_iconst (v := (1 : Int32)) hx hb dJ5_append_3fe6f_5 (by decide) ?_
  refine lv_iadd hx hb dJ5_append_3fe6f_6 ?_
  rw [show (nI U.length + (1 : Int32)) = nI (U.length + 1) from (nI_1 _)]
  refine h_callU (As := [.int (nI (U.length + 1))]) (rest := []) hx hb (hml.trans hl.1.symm) hown E hM hS xu_J5_ensureCapacityInternal_d00df kw_592 (va_any rfl (E.x.1 _ (List.mem_of_getElem? (i := 0) rfl))) (c_ens hlen hw2 hUw) (ht_m (List.mem_of_getElem? (i := 0) rfl)) gC_J4.1 rfl rfl (Nat.le_of_ble_eq_true rfl) ⟨(Nat.le_of_ble_eq_true rfl), (Nat.le_of_ble_eq_true rfl)⟩ ⟨(Nat.le_of_ble_eq_true rfl), (Nat.le_of_ble_eq_true rfl)⟩ dJ5_append_3fe6f_7 (fun rv H locs hZ hS => ?_)
  obtain ⟨vb2, w2, rfl, ⟨he1, he2⟩, hM⟩ := hZ
  replace hM : hW D cy ad b μ P [(ba, .inr (10, [.ref vb2, .int (0 : Int32), .int ml, .int (nI U.length)])), (vb2, .inl (cy 2, w2, .inl (sby U)))] H := hM
  refine lv_aload_n hx hb dJ5_append_3fe6f_10 rfl (lv_at hl 0 rfl) ?_
  refine h_callU (As := []) (rest := []) hx hb (hml.trans hl.1.symm) hown E hM hS xu_J5_isLatin1_aae02 kw_625 (E.kw kw_628) (c_blat) (ht_m (List.mem_of_getElem? (i := 0) rfl)) gC_J4.1 rfl rfl (Nat.le_of_ble_eq_true rfl) ⟨(Nat.le_of_ble_eq_true rfl), (Nat.le_of_ble_eq_true rfl)⟩ ⟨(Nat.le_of_ble_eq_true rfl), (Nat.le_of_ble_eq_true rfl)⟩ dJ5_append_3fe6f_11 (fun rv H locs hZ hS => ?_)
  obtain ⟨rfl, hM⟩ := hZ
  refine lv_if_eq (tgt := 45) hx hb dJ5_append_3fe6f_14 (by decide) (fun c1 => ?_) (fun c1 => ?_)
  · exact absurd c1 (by decide)
  · refine lv_iload_n hx hb dJ5_append_3fe6f_17 rfl (lv_at hl 1 rfl) ?_
    replace hM := hW.right (X := [(ba, .inr (10, [.ref vb2, .int (0 : Int32), .int ml, .int (nI U.length)])), (vb2, .inl (cy 2, w2, .inl (sby U)))]) (T := []) hM
    refine h_callS (As := [.int (nI ch)]) (rest := []) hx hb (hml.trans hl.1.symm) hown E hM hS xs_J1_canEncode_fc78d kw_793 (c_canE hch) rfl rfl (Nat.le_of_ble_eq_true rfl) ⟨(Nat.le_of_ble_eq_true rfl), (Nat.le_of_ble_eq_true rfl)⟩ ⟨(Nat.le_of_ble_eq_true rfl), (Nat.le_of_ble_eq_true rfl)⟩ dJ5_append_3fe6f_18 (fun rv H locs hZ hS => ?_)
    obtain ⟨rfl, hM⟩ := hZ
    replace hM := hW.left (X := [(ba, .inr (10, [.ref vb2, .int (0 : Int32), .int ml, .int (nI U.length)])), (vb2, .inl (cy 2, w2, .inl (sby U)))]) (T := []) hM
    replace hM : hW D cy ad b μ P [(ba, .inr (10, [.ref vb2, .int (0 : Int32), .int ml, .int (nI U.length)])), (vb2, .inl (cy 2, w2, .inl (sby U)))] H := hM
    refine lv_if_eq (tgt := 45) hx hb dJ5_append_3fe6f_21 (by decide) (fun c2 => ?_) (fun c2 => ?_)
    · exact absurd c2 (by decide)
    · refine lv_aload_n hx hb dJ5_append_3fe6f_24 rfl (lv_at hl 0 rfl) ?_
      refine h_get hx hb hown E hM (ht_m (List.mem_of_getElem? (i := 0) rfl)) gC_J4 0 (by decide) (v := .ref vb2) rfl kw_567 dJ5_append_3fe6f_25 ?_
      refine lv_aload_n hx hb dJ5_append_3fe6f_28 rfl (lv_at hl 0 rfl) ?_
      refine lv_dup hx hb dJ5_append_3fe6f_29 rfl ?_
      refine h_get hx hb hown E hM (ht_m (List.mem_of_getElem? (i := 0) rfl)) gC_J4 3 (by decide) (v := .int (nI U.length)) rfl kw_570 dJ5_append_3fe6f_30 ?_
      refine lv_dup_x1 hx hb dJ5_append_3fe6f_33 rfl rfl ?_
      refine lv_iconst (v := (1 : Int32)) hx hb dJ5_append_3fe6f_34 (by decide) ?_
      refine lv_iadd hx hb dJ5_append_3fe6f_35 ?_
      rw [show (nI U.length + (1 : Int32)) = nI (U ++ [ch]).length from ((nI_1 _).trans (congrArg nI (List.length_append (as := U) (bs := [ch])).symm))]
      refine h_put (j := 0) hx hb hown E hM hS rfl gC_J4 3 (by decide) rfl (tyJ4_ok 3 (by decide)) rfl rfl kw_570 (Nat.le_of_ble_eq_true rfl) dJ5_append_3fe6f_36 (fun H locs hM hS => ?_)
      replace hM : hW D cy ad b μ P [(ba, .inr (10, [.ref vb2, .int (0 : Int32), .int ml, .int (nI (U ++ [ch]).length)])), (vb2, .inl (cy 2, w2, .inl (sby U)))] H := hM
      refine lv_iload_n hx hb dJ5_append_3fe6f_39 rfl (lv_at hl 1 rfl) ?_
      refine lv_i2b (v := ((nI ch).toInt8.toInt32)) hx hb dJ5_append_3fe6f_40 rfl ?_
      refine h_bast (j := 1) hx hb E hM hS rfl (i := nI U.length) (x_in (N := w2) (by omega) (by omega)) dJ5_append_3fe6f_41 (fun H locs hM hS => ?_)
      rw [nI_clamp (by omega)] at hM
      rw [sby_b8] at hM
      rw [sby_chr] at hM
      replace hM : hW D cy ad b μ P [(ba, .inr (10, [.ref vb2, .int (0 : Int32), .int ml, .int (nI (U ++ [ch]).length)])), (vb2, .inl (cy 2, w2, .inl (sby (U ++ [ch]))))] H := hM
      refine lv_goto (tgt := 75) hx hb dJ5_append_3fe6f_42 (by decide) ?_
      refine lv_aload_n hx hb dJ5_append_3fe6f_75 rfl (lv_at hl 0 rfl) ?_
      exact h_aret hx hb hr (Or.inl ⟨_, rfl⟩) hlocks (Nat.le_of_ble_eq_true rfl) (Nat.le_of_ble_eq_true rfl) ⟨_, _, rfl, ⟨by rw [List.length_append]; exact he1, he2⟩, hM⟩ hS dJ5_append_3fe6f_76
theorem xp_J5_append_3fe6f : gYP "java/lang/StringBuilder" yJ5_append_3fe6f cJ5_append_3fe6f 2 (some (.object "java/lang/AbstractStringBuilder")) 1 := ⟨kw_792, kw_62, kw_791, by decide +kernel, by decide +kernel, kz_1559, kz_579⟩
theorem dJ4_append_cf468_0 : decode cJ4_append_cf468 0 = .ok (.aload_n 0, 1) := by decide +kernel
theorem dJ4_append_cf468_1 : decode cJ4_append_cf468 1 = .ok (.iload_n 1, 1) := by decide +kernel
theorem dJ4_append_cf468_2 : decode cJ4_append_cf468 2 = .ok (.invokespecial 50, 3) := by decide +kernel
theorem dJ4_append_cf468_5 : decode cJ4_append_cf468 5 = .ok (.pop, 1) := by decide +kernel
theorem dJ4_append_cf468_6 : decode cJ4_append_cf468 6 = .ok (.aload_n 0, 1) := by decide +kernel
theorem dJ4_append_cf468_7 : decode cJ4_append_cf468 7 = .ok (.areturn, 1) := by decide +kernel
set_option maxHeartbeats 4000000 in
set_option maxRecDepth 100000 in
theorem c_appC {l : Launch} {D : va_G} {cy : Nat → ClassId} {ad : Nat → Nat} {b : Nat} {μ : gM} {P : va_W} {ba vb w ch : Nat} {ml : Int32} {U : List Nat} (hch : ch < 256) (hlen : U.length + 1 ≤ 1024) (hUw : U.length ≤ w) (hw2 : w ≤ 2056) : Met l yJ4_append_cf468 [.code yJ4_append_cf468 cJ4_append_cf468 2 (some (.object "java/lang/StringBuilder"))] ({ frames := 5, cells := 1, slots := 2056, locals := 115 } : Room) (va_Pc [.ref ba, .int (nI ch)] (hB l D cy ad b μ P [(ba, .inr (10, [.ref vb, .int (0 : Int32), .int ml, .int (nI U.length)])), (vb, .inl (cy 2, w, .inl (sby U)))])) (hQ b (fun rv H => ∃ vb2 w2 : Nat, rv = some (.ref ba) ∧ ((U ++ [ch]).length ≤ w2 ∧ w2 ≤ 2056) ∧ hW D cy ad b μ P (sB cy ba vb2 w2 ml (U ++ [ch])) H)) 1 2056 (hA b) := by
  refine va_MetF (cc := cJ4_append_cf468) (maxL := 2) (ret := (some (.object "java/lang/StringBuilder"))) (by decide +kernel) rfl ?_
  intro p e s m args below meth c s₁ B hml0 hv
  obtain ⟨rfl, E, hM⟩ := hv
  obtain ⟨hx, hb, hml, hown, hlocks, hr⟩ := (gF_of B hml0 : gF p s m meth c cJ4_append_cf468 RJ4 2 (some (.object "java/lang/StringBuilder")))
  have hS : va_S (hA b) s.heap s.heap [] := va_S.rf
  have hl := lv_entry ([.ref ba, .int (nI ch)]) (n := 2) (Nat.le_of_ble_eq_true rfl)
  rw [lg_entry_eq]
  generalize (lg_sl ([.ref ba, .int (nI ch)]) ++ List.replicate (2 - (lg_sl ([.ref ba, .int (nI ch)])).length) Slot.unset).toArray = ls at hl ⊢
  have hl : lv_has ls 2 [(0, .ref ba), (1, .int (nI ch))] := hl
  refine lv_aload_n hx hb dJ4_append_cf468_0 rfl (lv_at hl 0 rfl) ?_
  refine lv_iload_n hx hb dJ4_append_cf468_1 rfl (lv_at hl 1 rfl) ?_
  refine h_callP (As := [.int (nI ch)]) (rest := []) hx hb (hml.trans hl.1.symm) hown E hM hS xp_J5_append_3fe6f kw_790 (c_appCA hch hlen hUw hw2) (ht_m (List.mem_of_getElem? (i := 0) rfl)) gC_J4.1 rfl rfl (Nat.le_of_ble_eq_true rfl) ⟨(Nat.le_of_ble_eq_true rfl), (Nat.le_of_ble_eq_true rfl)⟩ ⟨(Nat.le_of_ble_eq_true rfl), (Nat.le_of_ble_eq_true rfl)⟩ dJ4_append_cf468_2 (fun rv H locs hZ hS => ?_)
  obtain ⟨vb2, w2, rfl, he, hM⟩ := hZ
  replace hM : hW D cy ad b μ P [(ba, .inr (10, [.ref vb2, .int (0 : Int32), .int ml, .int (nI (U ++ [ch]).length)])), (vb2, .inl (cy 2, w2, .inl (sby (U ++ [ch]))))] H := hM
  refine lv_pop hx hb dJ4_append_cf468_5 rfl ?_
  refine lv_aload_n hx hb dJ4_append_cf468_6 rfl (lv_at hl 0 rfl) ?_
  exact h_aret hx hb hr (Or.inl ⟨_, rfl⟩) hlocks (Nat.le_of_ble_eq_true rfl) (Nat.le_of_ble_eq_true rfl) ⟨_, _, rfl, he, hM⟩ hS dJ4_append_cf468_7
theorem dJ5_init_d00df_0 : decode cJ5_init_d00df 0 = .ok (.aload_n 0, 1) := by decide +kernel
theorem dJ5_init_d00df_1 : decode cJ5_init_d00df 1 = .ok (.invokespecial 3, 3) := by decide +kernel
theorem dJ5_init_d00df_4 : decode cJ5_init_d00df 4 = .ok (.getstatic 18, 3) := by decide +kernel
theorem dJ5_init_d00df_7 : decode cJ5_init_d00df 7 = .ok (.ifCond .eq 18, 3) := by decide +kernel
theorem dJ5_init_d00df_10 : decode cJ5_init_d00df 10 = .ok (.aload_n 0, 1) := by decide +kernel
theorem dJ5_init_d00df_11 : decode cJ5_init_d00df 11 = .ok (.iload_n 1, 1) := by decide +kernel
theorem dJ5_init_d00df_12 : decode cJ5_init_d00df 12 = .ok (.newarray .byte, 2) := by decide +kernel
theorem dJ5_init_d00df_14 : decode cJ5_init_d00df 14 = .ok (.putfield 15, 3) := by decide +kernel
theorem dJ5_init_d00df_17 : decode cJ5_init_d00df 17 = .ok (.aload_n 0, 1) := by decide +kernel
theorem dJ5_init_d00df_18 : decode cJ5_init_d00df 18 = .ok (.iconst 0, 1) := by decide +kernel
theorem dJ5_init_d00df_19 : decode cJ5_init_d00df 19 = .ok (.putfield 22, 3) := by decide +kernel
theorem dJ5_init_d00df_22 : decode cJ5_init_d00df 22 = .ok (.goto 16, 3) := by decide +kernel
theorem dJ5_init_d00df_25 : decode cJ5_init_d00df 25 = .ok (.aload_n 0, 1) := by decide +kernel
theorem dJ5_init_d00df_26 : decode cJ5_init_d00df 26 = .ok (.iload_n 1, 1) := by decide +kernel
theorem dJ5_init_d00df_27 : decode cJ5_init_d00df 27 = .ok (.invokestatic 26, 3) := by decide +kernel
theorem dJ5_init_d00df_30 : decode cJ5_init_d00df 30 = .ok (.putfield 15, 3) := by decide +kernel
theorem dJ5_init_d00df_33 : decode cJ5_init_d00df 33 = .ok (.aload_n 0, 1) := by decide +kernel
theorem dJ5_init_d00df_34 : decode cJ5_init_d00df 34 = .ok (.iconst 1, 1) := by decide +kernel
theorem dJ5_init_d00df_35 : decode cJ5_init_d00df 35 = .ok (.putfield 22, 3) := by decide +kernel
theorem dJ5_init_d00df_38 : decode cJ5_init_d00df 38 = .ok (.return_, 1) := by decide +kernel
set_option maxHeartbeats 4000000 in
set_option maxRecDepth 100000 in
theorem c_bin0 {l : Launch} {D : va_G} {cy : Nat → ClassId} {ad : Nat → Nat} {b : Nat} {μ : gM} {P : va_W} {ba : Nat}  : Met l yJ5_init_d00df [.code yJ5_init_d00df cJ5_init_d00df 2 none] ({ frames := 1, cells := 1, slots := 2056, locals := 30 } : Room) (va_Pc [.ref ba, .int (nI 16)] (hB l D cy ad b μ P [(ba, .inr (10, [.null, .int 0, .int 0, .int 0]))])) (hQ b (fun rv H => ∃ vb : Nat, rv = none ∧ hW D cy ad b μ P (sB cy ba vb 16 0 []) H)) 1 2056 (hA b) := by
  refine va_MetF (cc := cJ5_init_d00df) (maxL := 2) (ret := none) (by decide +kernel) rfl ?_
  intro p e s m args below meth c s₁ B hml0 hv
  obtain ⟨rfl, E, hM⟩ := hv
  obtain ⟨hx, hb, hml, hown, hlocks, hr⟩ := (gF_of B hml0 : gF p s m meth c cJ5_init_d00df RJ5 2 none)
  have hin : meth.name = "<init>" := (name_of_methodNamed B.named B.method).1
  have hS : va_S (hA b) s.heap s.heap [] := va_S.rf
  have hl := lv_entry ([.ref ba, .int (nI 16)]) (n := 2) (Nat.le_of_ble_eq_true rfl)
  rw [lg_entry_eq]
  generalize (lg_sl ([.ref ba, .int (nI 16)]) ++ List.replicate (2 - (lg_sl ([.ref ba, .int (nI 16)])).length) Slot.unset).toArray = ls at hl ⊢
  have hl : lv_has ls 2 [(0, .ref ba), (1, .int (nI 16))] := hl
  refine lv_aload_n hx hb dJ5_init_d00df_0 rfl (lv_at hl 0 rfl) ?_
  refine W.objInit hx hb hown (E.kw kw_557) (E.kw kw_161) (E.kw kw_162) rfl (hl.1.trans hml.symm) rfl dJ5_init_d00df_1 (Nat.le_of_ble_eq_true rfl) (Nat.le_of_ble_eq_true rfl) ?_
  show W _ _ _ _ _ _ _ _ _ _ _ _ _ _ _ (F0 m 4 ls [])
  refine va_gets (v := .int 1) hx hb E.2.2.2.2.2.2.2.2.2.1 hS hown (E.kw kw_558) (fun _ h9 => h9) dJ5_init_d00df_4 ?_
  refine lv_if_eq (tgt := 25) hx hb dJ5_init_d00df_7 (by decide) (fun c1 => ?_) (fun c1 => ?_)
  · exact absurd c1 (by decide)
  · refine lv_aload_n hx hb dJ5_init_d00df_10 rfl (lv_at hl 0 rfl) ?_
    refine lv_iload_n hx hb dJ5_init_d00df_11 rfl (lv_at hl 1 rfl) ?_
    refine h_newY (n := 16) hx hb E hM hS (by decide) (Nat.le_of_ble_eq_true rfl) (Nat.le_of_ble_eq_true rfl) dJ5_init_d00df_12 (fun a2 H hM hS => ?_)
    replace hM : hW D cy ad b μ P [(ba, .inr (10, [.null, .int 0, .int 0, .int 0])), (a2, .inl (cy 2, 16, .inl (fun _ => 0)))] H := hM
    refine h_put (j := 0) hx hb hown E hM hS rfl gC_J4 0 (by decide) rfl (tyJ4_ok 0 (by decide)) rfl rfl kw_567 (Nat.le_of_ble_eq_true rfl) dJ5_init_d00df_14 (fun H locs hM hS => ?_)
    replace hM : hW D cy ad b μ P [(ba, .inr (10, [.ref a2, .int 0, .int 0, .int 0])), (a2, .inl (cy 2, 16, .inl (fun _ => 0)))] H := hM
    refine lv_aload_n hx hb dJ5_init_d00df_17 rfl (lv_at hl 0 rfl) ?_
    refine lv_iconst (v := (0 : Int32)) hx hb dJ5_init_d00df_18 (by decide) ?_
    refine h_put (j := 0) hx hb hown E hM hS rfl gC_J4 1 (by decide) rfl (tyJ4_ok 1 (by decide)) rfl rfl kw_568 (Nat.le_of_ble_eq_true rfl) dJ5_init_d00df_19 (fun H locs hM hS => ?_)
    replace hM : hW D cy ad b μ P [(ba, .inr (10, [.ref a2, .int (0 : Int32), .int 0, .int 0])), (a2, .inl (cy 2, 16, .inl (fun _ => 0)))] H := hM
    refine lv_goto (tgt := 38) hx hb dJ5_init_d00df_22 (by decide) ?_
    exact h_vret hx hb hr hlocks (Nat.le_of_ble_eq_true rfl) (Nat.le_of_ble_eq_true rfl) ⟨_, rfl, by rw [← sby_nil] at hM; exact hM⟩ hS dJ5_init_d00df_38
theorem xi_J5_init_d00df : gYI yJ5_init_d00df cJ5_init_d00df 2 1 := ⟨kw_556, kw_62, kw_555, ⟨by decide +kernel, by decide +kernel⟩, by decide +kernel, rfl⟩
theorem dJ4_init_da8c8_0 : decode cJ4_init_da8c8 0 = .ok (.aload_n 0, 1) := by decide +kernel
theorem dJ4_init_da8c8_1 : decode cJ4_init_da8c8 1 = .ok (.bipush 16, 2) := by decide +kernel
theorem dJ4_init_da8c8_3 : decode cJ4_init_da8c8 3 = .ok (.invokespecial 1, 3) := by decide +kernel
theorem dJ4_init_da8c8_6 : decode cJ4_init_da8c8 6 = .ok (.return_, 1) := by decide +kernel
set_option maxHeartbeats 4000000 in
set_option maxRecDepth 100000 in
theorem c_binit {l : Launch} {D : va_G} {cy : Nat → ClassId} {ad : Nat → Nat} {b : Nat} {μ : gM} {P : va_W} {ba : Nat}  : Met l yJ4_init_da8c8 [.code yJ4_init_da8c8 cJ4_init_da8c8 1 none] ({ frames := 2, cells := 1, slots := 2056, locals := 51 } : Room) (va_Pc [.ref ba] (hB l D cy ad b μ P [(ba, .inr (10, [.null, .int 0, .int 0, .int 0]))])) (hQ b (fun rv H => ∃ vb : Nat, rv = none ∧ hW D cy ad b μ P (sB cy ba vb 16 0 []) H)) 1 2056 (hA b) := by
  refine va_MetF (cc := cJ4_init_da8c8) (maxL := 1) (ret := none) (by decide +kernel) rfl ?_
  intro p e s m args below meth c s₁ B hml0 hv
  obtain ⟨rfl, E, hM⟩ := hv
  obtain ⟨hx, hb, hml, hown, hlocks, hr⟩ := (gF_of B hml0 : gF p s m meth c cJ4_init_da8c8 RJ4 1 none)
  have hin : meth.name = "<init>" := (name_of_methodNamed B.named B.method).1
  have hS : va_S (hA b) s.heap s.heap [] := va_S.rf
  have hl := lv_entry ([.ref ba]) (n := 1) (Nat.le_of_ble_eq_true rfl)
  rw [lg_entry_eq]
  generalize (lg_sl ([.ref ba]) ++ List.replicate (1 - (lg_sl ([.ref ba])).length) Slot.unset).toArray = ls at hl ⊢
  have hl : lv_has ls 1 [(0, .ref ba)] := hl
  refine lv_aload_n hx hb dJ4_init_da8c8_0 rfl (lv_at hl 0 rfl) ?_
  refine lv_bipush (v := (16 : Int32)) hx hb dJ4_init_da8c8_1 (by decide) ?_
  refine h_callI (As := [.int (16 : Int32)]) (rest := []) hx hb (hml.trans hl.1.symm) hown E hM hS xi_J5_init_d00df kw_554 (c_bin0) rfl rfl (Nat.le_of_ble_eq_true rfl) ⟨(Nat.le_of_ble_eq_true rfl), (Nat.le_of_ble_eq_true rfl)⟩ ⟨(Nat.le_of_ble_eq_true rfl), (Nat.le_of_ble_eq_true rfl)⟩ dJ4_init_da8c8_3 (fun rv H locs hZ hS => ?_)
  obtain ⟨vb, rfl, hM⟩ := hZ
  replace hM : hW D cy ad b μ P [(ba, .inr (10, [.ref vb, .int (0 : Int32), .int 0, .int (nI ([] : List Nat).length)])), (vb, .inl (cy 2, 16, .inl (sby [])))] H := hM
  exact h_vret hx hb hr hlocks (Nat.le_of_ble_eq_true rfl) (Nat.le_of_ble_eq_true rfl) ⟨_, rfl, hM⟩ hS dJ4_init_da8c8_6
theorem dJ7_checkLength_df160_0 : decode cJ7_checkLength_df160 0 = .ok (.iload_n 1, 1) := by decide +kernel
theorem dJ7_checkLength_df160_1 : decode cJ7_checkLength_df160 1 = .ok (.iload_n 0, 1) := by decide +kernel
theorem dJ7_checkLength_df160_2 : decode cJ7_checkLength_df160 2 = .ok (.if_icmp .ge 35, 3) := by decide +kernel
theorem dJ7_checkLength_df160_5 : decode cJ7_checkLength_df160 5 = .ok (.new 43, 3) := by decide +kernel
theorem dJ7_checkLength_df160_8 : decode cJ7_checkLength_df160 8 = .ok (.dup, 1) := by decide +kernel
theorem dJ7_checkLength_df160_9 : decode cJ7_checkLength_df160 9 = .ok (.new 45, 3) := by decide +kernel
theorem dJ7_checkLength_df160_12 : decode cJ7_checkLength_df160 12 = .ok (.dup, 1) := by decide +kernel
theorem dJ7_checkLength_df160_13 : decode cJ7_checkLength_df160 13 = .ok (.invokespecial 47, 3) := by decide +kernel
theorem dJ7_checkLength_df160_16 : decode cJ7_checkLength_df160 16 = .ok (.iload_n 0, 1) := by decide +kernel
theorem dJ7_checkLength_df160_17 : decode cJ7_checkLength_df160 17 = .ok (.invokevirtual 54, 3) := by decide +kernel
theorem dJ7_checkLength_df160_20 : decode cJ7_checkLength_df160 20 = .ok (.ldc_w 337, 3) := by decide +kernel
theorem dJ7_checkLength_df160_23 : decode cJ7_checkLength_df160 23 = .ok (.invokevirtual 50, 3) := by decide +kernel
theorem dJ7_checkLength_df160_26 : decode cJ7_checkLength_df160 26 = .ok (.iload_n 1, 1) := by decide +kernel
theorem dJ7_checkLength_df160_27 : decode cJ7_checkLength_df160 27 = .ok (.invokevirtual 54, 3) := by decide +kernel
theorem dJ7_checkLength_df160_30 : decode cJ7_checkLength_df160 30 = .ok (.invokevirtual 61, 3) := by decide +kernel
theorem dJ7_checkLength_df160_33 : decode cJ7_checkLength_df160 33 = .ok (.invokespecial 65, 3) := by decide +kernel
theorem dJ7_checkLength_df160_36 : decode cJ7_checkLength_df160 36 = .ok (.athrow, 1) := by decide +kernel
theorem dJ7_checkLength_df160_37 : decode cJ7_checkLength_df160 37 = .ok (.return_, 1) := by decide +kernel
set_option maxHeartbeats 4000000 in
set_option maxRecDepth 100000 in
theorem c_chkL {l : Launch} {D : va_G} {cy : Nat → ClassId} {ad : Nat → Nat} {b : Nat} {μ : gM} {P : va_W} {n : Nat} (hn : n < 2 ^ 30) : Met l yJ7_checkLength_df160 [.code yJ7_checkLength_df160 cJ7_checkLength_df160 2 none] ({ frames := 0, cells := 0, slots := 0, locals := 0 } : Room) (va_Pc [.int 0, .int (nI n)] (hB l D cy ad b μ P [])) (hQ b (fun rv H => rv = none ∧ hW D cy ad b μ P [] H)) 0 0 (hA b) := by
  refine va_MetF (cc := cJ7_checkLength_df160) (maxL := 2) (ret := none) (by decide +kernel) rfl ?_
  intro p e s m args below meth c s₁ B hml0 hv
  obtain ⟨rfl, E, hM⟩ := hv
  obtain ⟨hx, hb, hml, hown, hlocks, hr⟩ := (gF_of B hml0 : gF p s m meth c cJ7_checkLength_df160 RJ7 2 none)
  have hS : va_S (hA b) s.heap s.heap [] := va_S.rf
  have hl := lv_entry ([.int 0, .int (nI n)]) (n := 2) (Nat.le_of_ble_eq_true rfl)
  rw [lg_entry_eq]
  generalize (lg_sl ([.int 0, .int (nI n)]) ++ List.replicate (2 - (lg_sl ([.int 0, .int (nI n)])).length) Slot.unset).toArray = ls at hl ⊢
  have hl : lv_has ls 2 [(0, .int 0), (1, .int (nI n))] := hl
  refine lv_iload_n hx hb dJ7_checkLength_df160_0 rfl (lv_at hl 1 rfl) ?_
  refine lv_iload_n hx hb dJ7_checkLength_df160_1 rfl (lv_at hl 0 rfl) ?_
  refine lv_icmp_ge (tgt := 37) hx hb dJ7_checkLength_df160_2 (by decide) (fun c1 => ?_) (fun c1 => ?_)
  · exact h_vret hx hb hr hlocks (Nat.le_of_ble_eq_true rfl) (Nat.le_of_ble_eq_true rfl) ⟨rfl, hM⟩ hS dJ7_checkLength_df160_37
  · exact absurd (nI_le (a := 0) (Nat.zero_le _) (by omega)) c1
theorem xs_J7_checkLength_df160 : gYS yJ7_checkLength_df160 cJ7_checkLength_df160 2 none 2 := ⟨kw_760, kw_68, kw_759, ⟨by decide +kernel, by decide +kernel⟩, by decide +kernel⟩
theorem dJ7_copyOfRangeByte_39247_0 : decode cJ7_copyOfRangeByte_39247 0 = .ok (.iload_n 1, 1) := by decide +kernel
theorem dJ7_copyOfRangeByte_39247_1 : decode cJ7_copyOfRangeByte_39247 1 = .ok (.iload_n 2, 1) := by decide +kernel
theorem dJ7_copyOfRangeByte_39247_2 : decode cJ7_copyOfRangeByte_39247 2 = .ok (.invokestatic 343, 3) := by decide +kernel
theorem dJ7_copyOfRangeByte_39247_5 : decode cJ7_copyOfRangeByte_39247 5 = .ok (.iload_n 2, 1) := by decide +kernel
theorem dJ7_copyOfRangeByte_39247_6 : decode cJ7_copyOfRangeByte_39247 6 = .ok (.iload_n 1, 1) := by decide +kernel
theorem dJ7_copyOfRangeByte_39247_7 : decode cJ7_copyOfRangeByte_39247 7 = .ok (.isub, 1) := by decide +kernel
theorem dJ7_copyOfRangeByte_39247_8 : decode cJ7_copyOfRangeByte_39247 8 = .ok (.istore_n 3, 1) := by decide +kernel
theorem dJ7_copyOfRangeByte_39247_9 : decode cJ7_copyOfRangeByte_39247 9 = .ok (.iload_n 3, 1) := by decide +kernel
theorem dJ7_copyOfRangeByte_39247_10 : decode cJ7_copyOfRangeByte_39247 10 = .ok (.newarray .byte, 2) := by decide +kernel
theorem dJ7_copyOfRangeByte_39247_12 : decode cJ7_copyOfRangeByte_39247 12 = .ok (.astore 4, 2) := by decide +kernel
theorem dJ7_copyOfRangeByte_39247_14 : decode cJ7_copyOfRangeByte_39247 14 = .ok (.aload_n 0, 1) := by decide +kernel
theorem dJ7_copyOfRangeByte_39247_15 : decode cJ7_copyOfRangeByte_39247 15 = .ok (.iload_n 1, 1) := by decide +kernel
theorem dJ7_copyOfRangeByte_39247_16 : decode cJ7_copyOfRangeByte_39247 16 = .ok (.aload 4, 2) := by decide +kernel
theorem dJ7_copyOfRangeByte_39247_18 : decode cJ7_copyOfRangeByte_39247 18 = .ok (.iconst 0, 1) := by decide +kernel
theorem dJ7_copyOfRangeByte_39247_19 : decode cJ7_copyOfRangeByte_39247 19 = .ok (.aload_n 0, 1) := by decide +kernel
theorem dJ7_copyOfRangeByte_39247_20 : decode cJ7_copyOfRangeByte_39247 20 = .ok (.arraylength, 1) := by decide +kernel
theorem dJ7_copyOfRangeByte_39247_21 : decode cJ7_copyOfRangeByte_39247 21 = .ok (.iload_n 1, 1) := by decide +kernel
theorem dJ7_copyOfRangeByte_39247_22 : decode cJ7_copyOfRangeByte_39247 22 = .ok (.isub, 1) := by decide +kernel
theorem dJ7_copyOfRangeByte_39247_23 : decode cJ7_copyOfRangeByte_39247 23 = .ok (.iload_n 3, 1) := by decide +kernel
theorem dJ7_copyOfRangeByte_39247_24 : decode cJ7_copyOfRangeByte_39247 24 = .ok (.invokestatic 304, 3) := by decide +kernel
theorem dJ7_copyOfRangeByte_39247_27 : decode cJ7_copyOfRangeByte_39247 27 = .ok (.invokestatic 150, 3) := by decide +kernel
theorem dJ7_copyOfRangeByte_39247_30 : decode cJ7_copyOfRangeByte_39247 30 = .ok (.aload 4, 2) := by decide +kernel
theorem dJ7_copyOfRangeByte_39247_32 : decode cJ7_copyOfRangeByte_39247 32 = .ok (.areturn, 1) := by decide +kernel
set_option maxHeartbeats 4000000 in
set_option maxRecDepth 100000 in
theorem c_rngB {l : Launch} {D : va_G} {cy : Nat → ClassId} {ad : Nat → Nat} {b : Nat} {μ : gM} {P : va_W} {va w : Nat} {S : List Nat} (hSw : S.length ≤ w) (hw : w ≤ 2056) : Met l yJ7_copyOfRangeByte_39247 [.code yJ7_copyOfRangeByte_39247 cJ7_copyOfRangeByte_39247 5 (some (.array .byte))] ({ frames := 1, cells := 1, slots := 2056, locals := 40 } : Room) (va_Pc [.ref va, .int 0, .int (nI S.length)] (hB l D cy ad b μ P [(va, .inl (cy 2, w, .inl (sby S)))])) (hQ b (fun rv H => ∃ a, rv = some (.ref a) ∧ hW D cy ad b μ P [(va, .inl (cy 2, w, .inl (sby S))), (a, .inl (cy 2, S.length, .inl (sby S)))] H)) 1 2056 (hA b) := by
  refine va_MetF (cc := cJ7_copyOfRangeByte_39247) (maxL := 5) (ret := (some (.array .byte))) (by decide +kernel) rfl ?_
  intro p e s m args below meth c s₁ B hml0 hv
  obtain ⟨rfl, E, hM⟩ := hv
  obtain ⟨hx, hb, hml, hown, hlocks, hr⟩ := (gF_of B hml0 : gF p s m meth c cJ7_copyOfRangeByte_39247 RJ7 5 (some (.array .byte)))
  have hS : va_S (hA b) s.heap s.heap [] := va_S.rf
  have hl := lv_entry ([.ref va, .int 0, .int (nI S.length)]) (n := 5) (Nat.le_of_ble_eq_true rfl)
  rw [lg_entry_eq]
  generalize (lg_sl ([.ref va, .int 0, .int (nI S.length)]) ++ List.replicate (5 - (lg_sl ([.ref va, .int 0, .int (nI S.length)])).length) Slot.unset).toArray = ls at hl ⊢
  have hl : lv_has ls 5 [(0, .ref va), (1, .int 0), (2, .int (nI S.length))] := hl
  refine lv_iload_n hx hb dJ7_copyOfRangeByte_39247_0 rfl (lv_at hl 1 rfl) ?_
  refine lv_iload_n hx hb dJ7_copyOfRangeByte_39247_1 rfl (lv_at hl 2 rfl) ?_
  replace hM := hW.right (X := [(va, .inl (cy 2, w, .inl (sby S)))]) (T := []) hM
  refine h_callS (As := [.int 0, .int (nI S.length)]) (rest := []) hx hb (hml.trans hl.1.symm) hown E hM hS xs_J7_checkLength_df160 kw_758 (c_chkL (by omega)) rfl rfl (Nat.le_of_ble_eq_true rfl) ⟨(Nat.le_of_ble_eq_true rfl), (Nat.le_of_ble_eq_true rfl)⟩ ⟨(Nat.le_of_ble_eq_true rfl), (Nat.le_of_ble_eq_true rfl)⟩ dJ7_copyOfRangeByte_39247_2 (fun rv H locs hZ hS => ?_)
  obtain ⟨rfl, hM⟩ := hZ
  replace hM := hW.left (X := [(va, .inl (cy 2, w, .inl (sby S)))]) (T := []) hM
  replace hM : hW D cy ad b μ P [(va, .inl (cy 2, w, .inl (sby S)))] H := hM
  refine lv_iload_n hx hb dJ7_copyOfRangeByte_39247_5 rfl (lv_at hl 2 rfl) ?_
  refine lv_iload_n hx hb dJ7_copyOfRangeByte_39247_6 rfl (lv_at hl 1 rfl) ?_
  refine lv_isub hx hb dJ7_copyOfRangeByte_39247_7 ?_
  rw [show (nI S.length - 0) = nI S.length from (Int32.sub_zero _)]
  refine lv_istore_n (lv' := [(3, .int (nI S.length)), (0, .ref va), (1, .int 0), (2, .int (nI S.length))]) hx hb dJ7_copyOfRangeByte_39247_8 rfl hl (by decide) rfl (fun ls hl => ?_)
  refine lv_iload_n hx hb dJ7_copyOfRangeByte_39247_9 rfl (lv_at hl 0 rfl) ?_
  refine h_newY (n := S.length) hx hb E hM hS (by omega) (Nat.le_of_ble_eq_true rfl) (Nat.le_of_ble_eq_true rfl) dJ7_copyOfRangeByte_39247_10 (fun a1 H hM hS => ?_)
  replace hM : hW D cy ad b μ P [(va, .inl (cy 2, w, .inl (sby S))), (a1, .inl (cy 2, S.length, .inl (fun _ => 0)))] H := hM
  refine lv_astore (lv' := [(4, .ref a1), (3, .int (nI S.length)), (0, .ref va), (1, .int 0), (2, .int (nI S.length))]) hx hb dJ7_copyOfRangeByte_39247_12 hl (by decide) rfl (fun ls hl => ?_)
  refine lv_aload_n hx hb dJ7_copyOfRangeByte_39247_14 rfl (lv_at hl 2 rfl) ?_
  refine lv_iload_n hx hb dJ7_copyOfRangeByte_39247_15 rfl (lv_at hl 3 rfl) ?_
  refine lv_aload hx hb dJ7_copyOfRangeByte_39247_16 (lv_at hl 0 rfl) ?_
  refine lv_iconst (v := (0 : Int32)) hx hb dJ7_copyOfRangeByte_39247_18 (by decide) ?_
  refine lv_aload_n hx hb dJ7_copyOfRangeByte_39247_19 rfl (lv_at hl 2 rfl) ?_
  refine h_alen hx hb E hM 2 (ty := .byte) (ht_m (List.mem_of_getElem? (i := 0) rfl)) rfl (v := nI w) rfl dJ7_copyOfRangeByte_39247_20 ?_
  refine lv_iload_n hx hb dJ7_copyOfRangeByte_39247_21 rfl (lv_at hl 3 rfl) ?_
  refine lv_isub hx hb dJ7_copyOfRangeByte_39247_22 ?_
  rw [show (nI w - 0) = nI w from (Int32.sub_zero _)]
  refine lv_iload_n hx hb dJ7_copyOfRangeByte_39247_23 rfl (lv_at hl 1 rfl) ?_
  refine va_mmin hx hb (hml.trans hl.1.symm) hown (E.kw kw_621) (E.kw kw_622) (E.kw kw_67) (E.kw kw_623) (Nat.le_of_ble_eq_true rfl) (Nat.le_of_ble_eq_true rfl) (Nat.le_of_ble_eq_true rfl) (Nat.le_of_ble_eq_true rfl) dJ7_copyOfRangeByte_39247_24 ?_
  rw [show (if nI S.length < nI w then nI S.length else nI w) = nI S.length from ((x_min (by omega) (by omega)).trans (congrArg nI (Nat.min_eq_right hSw)))]
  refine h_cpyT (j := 1) hx hb (hml.trans hl.1.symm) hown E hM hS ⟨kw_624, kw_97, kw_96, kw_69⟩ (ht_m (List.mem_of_getElem? (i := 0) rfl)) rfl (sp := 0) (dp := 0) (n := S.length) (by omega) (by omega) (by omega) (by omega) (Nat.le_of_ble_eq_true rfl) (Nat.le_of_ble_eq_true rfl) dJ7_copyOfRangeByte_39247_27 (fun H locs hM hS => ?_)
  rw [sby_cut (Nat.le_refl _)] at hM
  replace hM : hW D cy ad b μ P [(va, .inl (cy 2, w, .inl (sby S))), (a1, .inl (cy 2, S.length, .inl (sby S)))] H := hM
  refine lv_aload hx hb dJ7_copyOfRangeByte_39247_30 (lv_at hl 0 rfl) ?_
  exact h_aret hx hb hr (Or.inr ⟨_, rfl⟩) hlocks (Nat.le_of_ble_eq_true rfl) (Nat.le_of_ble_eq_true rfl) ⟨_, rfl, hM⟩ hS dJ7_copyOfRangeByte_39247_32
theorem xs_J7_copyOfRangeByte_39247 : gYS yJ7_copyOfRangeByte_39247 cJ7_copyOfRangeByte_39247 5 (some (.array .byte)) 3 := ⟨kw_757, kw_68, kw_756, ⟨by decide +kernel, by decide +kernel⟩, by decide +kernel⟩
theorem dJ7_copyOfRange_39247_0 : decode cJ7_copyOfRange_39247 0 = .ok (.iload_n 1, 1) := by decide +kernel
theorem dJ7_copyOfRange_39247_1 : decode cJ7_copyOfRange_39247 1 = .ok (.ifCond .ne 9, 3) := by decide +kernel
theorem dJ7_copyOfRange_39247_4 : decode cJ7_copyOfRange_39247 4 = .ok (.iload_n 2, 1) := by decide +kernel
theorem dJ7_copyOfRange_39247_5 : decode cJ7_copyOfRange_39247 5 = .ok (.aload_n 0, 1) := by decide +kernel
theorem dJ7_copyOfRange_39247_6 : decode cJ7_copyOfRange_39247 6 = .ok (.arraylength, 1) := by decide +kernel
theorem dJ7_copyOfRange_39247_7 : decode cJ7_copyOfRange_39247 7 = .ok (.if_icmp .eq 10, 3) := by decide +kernel
theorem dJ7_copyOfRange_39247_10 : decode cJ7_copyOfRange_39247 10 = .ok (.aload_n 0, 1) := by decide +kernel
theorem dJ7_copyOfRange_39247_11 : decode cJ7_copyOfRange_39247 11 = .ok (.iload_n 1, 1) := by decide +kernel
theorem dJ7_copyOfRange_39247_12 : decode cJ7_copyOfRange_39247 12 = .ok (.iload_n 2, 1) := by decide +kernel
theorem dJ7_copyOfRange_39247_13 : decode cJ7_copyOfRange_39247 13 = .ok (.invokestatic 339, 3) := by decide +kernel
theorem dJ7_copyOfRange_39247_16 : decode cJ7_copyOfRange_39247 16 = .ok (.areturn, 1) := by decide +kernel
theorem dJ7_copyOfRange_39247_17 : decode cJ7_copyOfRange_39247 17 = .ok (.aload_n 0, 1) := by decide +kernel
theorem dJ7_copyOfRange_39247_18 : decode cJ7_copyOfRange_39247 18 = .ok (.invokevirtual 310, 3) := by decide +kernel
theorem dJ7_copyOfRange_39247_21 : decode cJ7_copyOfRange_39247 21 = .ok (.checkcast 311, 3) := by decide +kernel
theorem dJ7_copyOfRange_39247_24 : decode cJ7_copyOfRange_39247 24 = .ok (.areturn, 1) := by decide +kernel
set_option maxHeartbeats 4000000 in
set_option maxRecDepth 100000 in
theorem c_rng0 {l : Launch} {D : va_G} {cy : Nat → ClassId} {ad : Nat → Nat} {b : Nat} {μ : gM} {P : va_W} {va w : Nat} {S : List Nat} (hSw : S.length ≤ w) (hw : w ≤ 2056) (hne : ¬ nI S.length = nI w) : Met l yJ7_copyOfRange_39247 [.code yJ7_copyOfRange_39247 cJ7_copyOfRange_39247 3 (some (.array .byte))] ({ frames := 2, cells := 1, slots := 2056, locals := 64 } : Room) (va_Pc [.ref va, .int 0, .int (nI S.length)] (hB l D cy ad b μ P [(va, .inl (cy 2, w, .inl (sby S)))])) (hQ b (fun rv H => ∃ a, rv = some (.ref a) ∧ hW D cy ad b μ P [(va, .inl (cy 2, w, .inl (sby S))), (a, .inl (cy 2, S.length, .inl (sby S)))] H)) 1 2056 (hA b) := by
  refine va_MetF (cc := cJ7_copyOfRange_39247) (maxL := 3) (ret := (some (.array .byte))) (by decide +kernel) rfl ?_
  intro p e s m args below meth c s₁ B hml0 hv
  obtain ⟨rfl, E, hM⟩ := hv
  obtain ⟨hx, hb, hml, hown, hlocks, hr⟩ := (gF_of B hml0 : gF p s m meth c cJ7_copyOfRange_39247 RJ7 3 (some (.array .byte)))
  have hS : va_S (hA b) s.heap s.heap [] := va_S.rf
  have hl := lv_entry ([.ref va, .int 0, .int (nI S.length)]) (n := 3) (Nat.le_of_ble_eq_true rfl)
  rw [lg_entry_eq]
  generalize (lg_sl ([.ref va, .int 0, .int (nI S.length)]) ++ List.replicate (3 - (lg_sl ([.ref va, .int 0, .int (nI S.length)])).length) Slot.unset).toArray = ls at hl ⊢
  have hl : lv_has ls 3 [(0, .ref va), (1, .int 0), (2, .int (nI S.length))] := hl
  refine lv_iload_n hx hb dJ7_copyOfRange_39247_0 rfl (lv_at hl 1 rfl) ?_
  refine lv_if_ne (tgt := 10) hx hb dJ7_copyOfRange_39247_1 (by decide) (fun c1 => ?_) (fun c1 => ?_)
  · exact absurd rfl c1
  · refine lv_iload_n hx hb dJ7_copyOfRange_39247_4 rfl (lv_at hl 2 rfl) ?_
    refine lv_aload_n hx hb dJ7_copyOfRange_39247_5 rfl (lv_at hl 0 rfl) ?_
    refine h_alen hx hb E hM 2 (ty := .byte) (ht_m (List.mem_of_getElem? (i := 0) rfl)) rfl (v := nI w) rfl dJ7_copyOfRange_39247_6 ?_
    refine lv_icmp_eq (tgt := 17) hx hb dJ7_copyOfRange_39247_7 (by decide) (fun c2 => ?_) (fun c2 => ?_)
    · exact absurd c2 hne
    · refine lv_aload_n hx hb dJ7_copyOfRange_39247_10 rfl (lv_at hl 0 rfl) ?_
      refine lv_iload_n hx hb dJ7_copyOfRange_39247_11 rfl (lv_at hl 1 rfl) ?_
      refine lv_iload_n hx hb dJ7_copyOfRange_39247_12 rfl (lv_at hl 2 rfl) ?_
      refine h_callS (As := [.ref va, .int 0, .int (nI S.length)]) (rest := []) hx hb (hml.trans hl.1.symm) hown E hM hS xs_J7_copyOfRangeByte_39247 kw_755 (c_rngB hSw hw) rfl rfl (Nat.le_of_ble_eq_true rfl) ⟨(Nat.le_of_ble_eq_true rfl), (Nat.le_of_ble_eq_true rfl)⟩ ⟨(Nat.le_of_ble_eq_true rfl), (Nat.le_of_ble_eq_true rfl)⟩ dJ7_copyOfRange_39247_13 (fun rv H locs hZ hS => ?_)
      obtain ⟨a9, rfl, hM⟩ := hZ
      replace hM : hW D cy ad b μ P [(va, .inl (cy 2, w, .inl (sby S))), (a9, .inl (cy 2, S.length, .inl (sby S)))] H := hM
      exact h_aret hx hb hr (Or.inr ⟨_, rfl⟩) hlocks (Nat.le_of_ble_eq_true rfl) (Nat.le_of_ble_eq_true rfl) ⟨_, rfl, hM⟩ hS dJ7_copyOfRange_39247_16
set_option maxHeartbeats 4000000 in
set_option maxRecDepth 100000 in
theorem c_rng1 {l : Launch} {D : va_G} {cy : Nat → ClassId} {ad : Nat → Nat} {b : Nat} {μ : gM} {P : va_W} {va w : Nat} {S : List Nat} (hw : w ≤ 2056) (he : S.length = w) : Met l yJ7_copyOfRange_39247 [.code yJ7_copyOfRange_39247 cJ7_copyOfRange_39247 3 (some (.array .byte))] ({ frames := 2, cells := 1, slots := 2056, locals := 64 } : Room) (va_Pc [.ref va, .int 0, .int (nI S.length)] (hB l D cy ad b μ P [(va, .inl (cy 2, w, .inl (sby S)))])) (hQ b (fun rv H => ∃ a, rv = some (.ref a) ∧ hW D cy ad b μ P [(va, .inl (cy 2, w, .inl (sby S))), (a, .inl (cy 2, S.length, .inl (sby S)))] H)) 1 2056 (hA b) := by
  refine va_MetF (cc := cJ7_copyOfRange_39247) (maxL := 3) (ret := (some (.array .byte))) (by decide +kernel) rfl ?_
  intro p e s m args below meth c s₁ B hml0 hv
  obtain ⟨rfl, E, hM⟩ := hv
  obtain ⟨hx, hb, hml, hown, hlocks, hr⟩ := (gF_of B hml0 : gF p s m meth c cJ7_copyOfRange_39247 RJ7 3 (some (.array .byte)))
  have hS : va_S (hA b) s.heap s.heap [] := va_S.rf
  have hl := lv_entry ([.ref va, .int 0, .int (nI S.length)]) (n := 3) (Nat.le_of_ble_eq_true rfl)
  rw [lg_entry_eq]
  generalize (lg_sl ([.ref va, .int 0, .int (nI S.length)]) ++ List.replicate (3 - (lg_sl ([.ref va, .int 0, .int (nI S.length)])).length) Slot.unset).toArray = ls at hl ⊢
  have hl : lv_has ls 3 [(0, .ref va), (1, .int 0), (2, .int (nI S.length))] := hl
  refine lv_iload_n hx hb dJ7_copyOfRange_39247_0 rfl (lv_at hl 1 rfl) ?_
  refine lv_if_ne (tgt := 10) hx hb dJ7_copyOfRange_39247_1 (by decide) (fun c1 => ?_) (fun c1 => ?_)
  · exact absurd rfl c1
  · refine lv_iload_n hx hb dJ7_copyOfRange_39247_4 rfl (lv_at hl 2 rfl) ?_
    refine lv_aload_n hx hb dJ7_copyOfRange_39247_5 rfl (lv_at hl 0 rfl) ?_
    refine h_alen hx hb E hM 2 (ty := .byte) (ht_m (List.mem_of_getElem? (i := 0) rfl)) rfl (v := nI w) rfl dJ7_copyOfRange_39247_6 ?_
    refine lv_icmp_eq (tgt := 17) hx hb dJ7_copyOfRange_39247_7 (by decide) (fun c2 => ?_) (fun c2 => ?_)
    · refine lv_aload_n hx hb dJ7_copyOfRange_39247_17 rfl (lv_at hl 0 rfl) ?_
      refine h_cloneY hx hb (hml.trans hl.1.symm) hown E hM hS kw_614 (ht_m (List.mem_of_getElem? (i := 0) rfl)) hw (Nat.le_of_ble_eq_true rfl) (Nat.le_of_ble_eq_true rfl) (Nat.le_of_ble_eq_true rfl) (Nat.le_of_ble_eq_true rfl) dJ7_copyOfRange_39247_18 (fun a3 H hM hS => ?_)
      replace hM : hW D cy ad b μ P [(va, .inl (cy 2, w, .inl (sby S))), (a3, .inl (cy 2, w, .inl (sby S)))] H := hM
      refine h_castY2 hx hb hown E hM (ht_m (List.mem_of_getElem? (i := 1) rfl)) kw_620 dJ7_copyOfRange_39247_21 ?_
      exact h_aret hx hb hr (Or.inr ⟨_, rfl⟩) hlocks (Nat.le_of_ble_eq_true rfl) (Nat.le_of_ble_eq_true rfl) ⟨_, rfl, by rw [he]; exact hM⟩ hS dJ7_copyOfRange_39247_24
    · exact absurd (by rw [he]) c2
theorem c_rng {l : Launch} {D : va_G} {cy : Nat → ClassId} {ad : Nat → Nat} {b : Nat} {μ : gM} {P : va_W} {va w : Nat} {S : List Nat} (hSw : S.length ≤ w) (hw : w ≤ 2056) : Met l yJ7_copyOfRange_39247 [.code yJ7_copyOfRange_39247 cJ7_copyOfRange_39247 3 (some (.array .byte))] ({ frames := 2, cells := 1, slots := 2056, locals := 64 } : Room) (va_Pc [.ref va, .int 0, .int (nI S.length)] (hB l D cy ad b μ P [(va, .inl (cy 2, w, .inl (sby S)))])) (hQ b (fun rv H => ∃ a, rv = some (.ref a) ∧ hW D cy ad b μ P [(va, .inl (cy 2, w, .inl (sby S))), (a, .inl (cy 2, S.length, .inl (sby S)))] H)) 1 2056 (hA b) := by
  by_cases he : S.length = w
  · exact c_rng1 hw he
  · exact c_rng0 hSw hw (fun z => he ((nI_eq (by omega) (by omega)).mp z))
theorem xu_J5_getValue_6d5f1 : gYU "java/lang/StringBuilder" yJ5_getValue_6d5f1 yJ5_getValue_6d5f1 cJ5_getValue_6d5f1 1 (some (.array .byte)) 0 := ⟨kw_742, kw_62, kw_739, ⟨by decide +kernel, by decide +kernel⟩, by decide +kernel, kz_740, _, _, _, kw_739, kw_742⟩
theorem xu_J4_length_8abf5 : gYU "java/lang/StringBuilder" yJ5_length_8abf5 yJ4_length_8abf5 cJ4_length_8abf5 1 (some .int) 0 := ⟨kw_748, kw_63, kw_747, ⟨by decide +kernel, by decide +kernel⟩, by decide +kernel, kz_745, _, _, _, kw_744, kw_750⟩
theorem xs_J7_copyOfRange_39247 : gYS yJ7_copyOfRange_39247 cJ7_copyOfRange_39247 3 (some (.array .byte)) 3 := ⟨kw_754, kw_68, kw_753, ⟨by decide +kernel, by decide +kernel⟩, by decide +kernel⟩
theorem dJ0_init_db425_0 : decode cJ0_init_db425 0 = .ok (.aload_n 0, 1) := by decide +kernel
theorem dJ0_init_db425_1 : decode cJ0_init_db425 1 = .ok (.invokespecial 1, 3) := by decide +kernel
theorem dJ0_init_db425_4 : decode cJ0_init_db425 4 = .ok (.aload_n 1, 1) := by decide +kernel
theorem dJ0_init_db425_5 : decode cJ0_init_db425 5 = .ok (.invokevirtual 552, 3) := by decide +kernel
theorem dJ0_init_db425_8 : decode cJ0_init_db425 8 = .ok (.astore_n 3, 1) := by decide +kernel
theorem dJ0_init_db425_9 : decode cJ0_init_db425 9 = .ok (.aload_n 1, 1) := by decide +kernel
theorem dJ0_init_db425_10 : decode cJ0_init_db425 10 = .ok (.invokevirtual 549, 3) := by decide +kernel
theorem dJ0_init_db425_13 : decode cJ0_init_db425 13 = .ok (.istore 4, 2) := by decide +kernel
theorem dJ0_init_db425_15 : decode cJ0_init_db425 15 = .ok (.aload_n 1, 1) := by decide +kernel
theorem dJ0_init_db425_16 : decode cJ0_init_db425 16 = .ok (.invokevirtual 1047, 3) := by decide +kernel
theorem dJ0_init_db425_19 : decode cJ0_init_db425 19 = .ok (.ifCond .eq 22, 3) := by decide +kernel
theorem dJ0_init_db425_22 : decode cJ0_init_db425 22 = .ok (.aload_n 0, 1) := by decide +kernel
theorem dJ0_init_db425_23 : decode cJ0_init_db425 23 = .ok (.iconst 0, 1) := by decide +kernel
theorem dJ0_init_db425_24 : decode cJ0_init_db425 24 = .ok (.putfield 15, 3) := by decide +kernel
theorem dJ0_init_db425_27 : decode cJ0_init_db425 27 = .ok (.aload_n 0, 1) := by decide +kernel
theorem dJ0_init_db425_28 : decode cJ0_init_db425 28 = .ok (.aload_n 3, 1) := by decide +kernel
theorem dJ0_init_db425_29 : decode cJ0_init_db425 29 = .ok (.iconst 0, 1) := by decide +kernel
theorem dJ0_init_db425_30 : decode cJ0_init_db425 30 = .ok (.iload 4, 2) := by decide +kernel
theorem dJ0_init_db425_32 : decode cJ0_init_db425 32 = .ok (.invokestatic 54, 3) := by decide +kernel
theorem dJ0_init_db425_35 : decode cJ0_init_db425 35 = .ok (.putfield 9, 3) := by decide +kernel
theorem dJ0_init_db425_38 : decode cJ0_init_db425 38 = .ok (.goto 59, 3) := by decide +kernel
theorem dJ0_init_db425_41 : decode cJ0_init_db425 41 = .ok (.getstatic 38, 3) := by decide +kernel
theorem dJ0_init_db425_44 : decode cJ0_init_db425 44 = .ok (.ifCond .eq 35, 3) := by decide +kernel
theorem dJ0_init_db425_47 : decode cJ0_init_db425 47 = .ok (.aload_n 1, 1) := by decide +kernel
theorem dJ0_init_db425_48 : decode cJ0_init_db425 48 = .ok (.getfield 1048, 3) := by decide +kernel
theorem dJ0_init_db425_51 : decode cJ0_init_db425 51 = .ok (.ifCond .eq 28, 3) := by decide +kernel
theorem dJ0_init_db425_54 : decode cJ0_init_db425 54 = .ok (.aload_n 0, 1) := by decide +kernel
theorem dJ0_init_db425_55 : decode cJ0_init_db425 55 = .ok (.aload_n 3, 1) := by decide +kernel
theorem dJ0_init_db425_56 : decode cJ0_init_db425 56 = .ok (.iconst 0, 1) := by decide +kernel
theorem dJ0_init_db425_57 : decode cJ0_init_db425 57 = .ok (.iload 4, 2) := by decide +kernel
theorem dJ0_init_db425_59 : decode cJ0_init_db425 59 = .ok (.invokestatic 1051, 3) := by decide +kernel
theorem dJ0_init_db425_62 : decode cJ0_init_db425 62 = .ok (.putfield 9, 3) := by decide +kernel
theorem dJ0_init_db425_65 : decode cJ0_init_db425 65 = .ok (.aload_n 0, 1) := by decide +kernel
theorem dJ0_init_db425_66 : decode cJ0_init_db425 66 = .ok (.aload_n 0, 1) := by decide +kernel
theorem dJ0_init_db425_67 : decode cJ0_init_db425 67 = .ok (.getfield 9, 3) := by decide +kernel
theorem dJ0_init_db425_70 : decode cJ0_init_db425 70 = .ok (.iload 4, 2) := by decide +kernel
theorem dJ0_init_db425_72 : decode cJ0_init_db425 72 = .ok (.invokestatic 47, 3) := by decide +kernel
theorem dJ0_init_db425_75 : decode cJ0_init_db425 75 = .ok (.putfield 15, 3) := by decide +kernel
theorem dJ0_init_db425_78 : decode cJ0_init_db425 78 = .ok (.return_, 1) := by decide +kernel
theorem dJ0_init_db425_79 : decode cJ0_init_db425 79 = .ok (.aload_n 0, 1) := by decide +kernel
theorem dJ0_init_db425_80 : decode cJ0_init_db425 80 = .ok (.iconst 1, 1) := by decide +kernel
theorem dJ0_init_db425_81 : decode cJ0_init_db425 81 = .ok (.putfield 15, 3) := by decide +kernel
theorem dJ0_init_db425_84 : decode cJ0_init_db425 84 = .ok (.aload_n 0, 1) := by decide +kernel
theorem dJ0_init_db425_85 : decode cJ0_init_db425 85 = .ok (.aload_n 3, 1) := by decide +kernel
theorem dJ0_init_db425_86 : decode cJ0_init_db425 86 = .ok (.iconst 0, 1) := by decide +kernel
theorem dJ0_init_db425_87 : decode cJ0_init_db425 87 = .ok (.iload 4, 2) := by decide +kernel
theorem dJ0_init_db425_89 : decode cJ0_init_db425 89 = .ok (.iconst 1, 1) := by decide +kernel
theorem dJ0_init_db425_90 : decode cJ0_init_db425 90 = .ok (.ishl, 1) := by decide +kernel
theorem dJ0_init_db425_91 : decode cJ0_init_db425 91 = .ok (.invokestatic 54, 3) := by decide +kernel
theorem dJ0_init_db425_94 : decode cJ0_init_db425 94 = .ok (.putfield 9, 3) := by decide +kernel
theorem dJ0_init_db425_97 : decode cJ0_init_db425 97 = .ok (.return_, 1) := by decide +kernel
set_option maxHeartbeats 4000000 in
set_option maxRecDepth 100000 in
theorem c_sin1 {l : Launch} {D : va_G} {cy : Nat → ClassId} {ad : Nat → Nat} {b : Nat} {μ : gM} {P : va_W} {sa ba vb w : Nat} {ml : Int32} {U : List Nat} (hUw : U.length ≤ w) (hw2 : w ≤ 2056) : Met l yJ0_init_db425 [.code yJ0_init_db425 cJ0_init_db425 5 none] ({ frames := 3, cells := 1, slots := 2056, locals := 86 } : Room) (va_Pc [.ref sa, .ref ba, .null] (hB l D cy ad b μ P [(sa, .inr (9, [.null, .int 0, .int 0, .int 0])), (ba, .inr (10, [.ref vb, .int (0 : Int32), .int ml, .int (nI U.length)])), (vb, .inl (cy 2, w, .inl (sby U)))])) (hQ b (fun rv H => ∃ va : Nat, rv = none ∧ hW D cy ad b μ P (sB cy ba vb w ml U ++ [(sa, sO va), (va, sV cy U)]) H)) 1 2056 (hA b) := by
  refine va_MetF (cc := cJ0_init_db425) (maxL := 5) (ret := none) (by decide +kernel) rfl ?_
  intro p e s m args below meth c s₁ B hml0 hv
  obtain ⟨rfl, E, hM⟩ := hv
  obtain ⟨hx, hb, hml, hown, hlocks, hr⟩ := (gF_of B hml0 : gF p s m meth c cJ0_init_db425 RJ0 5 none)
  have hin : meth.name = "<init>" := (name_of_methodNamed B.named B.method).1
  have hS : va_S (hA b) s.heap s.heap [] := va_S.rf
  have hl := lv_entry ([.ref sa, .ref ba, .null]) (n := 5) (Nat.le_of_ble_eq_true rfl)
  rw [lg_entry_eq]
  generalize (lg_sl ([.ref sa, .ref ba, .null]) ++ List.replicate (5 - (lg_sl ([.ref sa, .ref ba, .null])).length) Slot.unset).toArray = ls at hl ⊢
  have hl : lv_has ls 5 [(0, .ref sa), (1, .ref ba), (2, .null)] := hl
  refine lv_aload_n hx hb dJ0_init_db425_0 rfl (lv_at hl 0 rfl) ?_
  refine W.objInit hx hb hown (E.kw kw_737) (E.kw kw_161) (E.kw kw_162) rfl (hl.1.trans hml.symm) rfl dJ0_init_db425_1 (Nat.le_of_ble_eq_true rfl) (Nat.le_of_ble_eq_true rfl) ?_
  show W _ _ _ _ _ _ _ _ _ _ _ _ _ _ _ (F0 m 4 ls [])
  refine lv_aload_n hx hb dJ0_init_db425_4 rfl (lv_at hl 1 rfl) ?_
  replace hM := hW.right (X := [(sa, .inr (9, [.null, .int 0, .int 0, .int 0]))]) (T := [(ba, .inr (10, [.ref vb, .int (0 : Int32), .int ml, .int (nI U.length)])), (vb, .inl (cy 2, w, .inl (sby U)))]) hM
  refine h_callU (As := []) (rest := []) hx hb (hml.trans hl.1.symm) hown E hM hS xu_J5_getValue_6d5f1 kw_738 (E.kw kw_741) (c_getv) (ht_m (List.mem_of_getElem? (i := 0) rfl)) gC_J4.1 rfl rfl (Nat.le_of_ble_eq_true rfl) ⟨(Nat.le_of_ble_eq_true rfl), (Nat.le_of_ble_eq_true rfl)⟩ ⟨(Nat.le_of_ble_eq_true rfl), (Nat.le_of_ble_eq_true rfl)⟩ dJ0_init_db425_5 (fun rv H locs hZ hS => ?_)
  obtain ⟨rfl, hM⟩ := hZ
  replace hM := hW.left (X := [(sa, .inr (9, [.null, .int 0, .int 0, .int 0]))]) (T := [(ba, .inr (10, [.ref vb, .int (0 : Int32), .int ml, .int (nI U.length)])), (vb, .inl (cy 2, w, .inl (sby U)))]) hM
  replace hM : hW D cy ad b μ P [(sa, .inr (9, [.null, .int 0, .int 0, .int 0])), (ba, .inr (10, [.ref vb, .int (0 : Int32), .int ml, .int (nI U.length)])), (vb, .inl (cy 2, w, .inl (sby U)))] H := hM
  refine lv_astore_n (lv' := [(3, .ref vb), (0, .ref sa), (1, .ref ba), (2, .null)]) hx hb dJ0_init_db425_8 rfl hl (by decide) rfl (fun ls hl => ?_)
  refine lv_aload_n hx hb dJ0_init_db425_9 rfl (lv_at hl 2 rfl) ?_
  replace hM := hW.right (X := [(sa, .inr (9, [.null, .int 0, .int 0, .int 0]))]) (T := [(ba, .inr (10, [.ref vb, .int (0 : Int32), .int ml, .int (nI U.length)])), (vb, .inl (cy 2, w, .inl (sby U)))]) hM
  refine h_callU (As := []) (rest := []) hx hb (hml.trans hl.1.symm) hown E hM hS xu_J4_length_8abf5 kw_743 (E.kw kw_746) (c_blen) (ht_m (List.mem_of_getElem? (i := 0) rfl)) gC_J4.1 rfl rfl (Nat.le_of_ble_eq_true rfl) ⟨(Nat.le_of_ble_eq_true rfl), (Nat.le_of_ble_eq_true rfl)⟩ ⟨(Nat.le_of_ble_eq_true rfl), (Nat.le_of_ble_eq_true rfl)⟩ dJ0_init_db425_10 (fun rv H locs hZ hS => ?_)
  obtain ⟨rfl, hM⟩ := hZ
  replace hM := hW.left (X := [(sa, .inr (9, [.null, .int 0, .int 0, .int 0]))]) (T := [(ba, .inr (10, [.ref vb, .int (0 : Int32), .int ml, .int (nI U.length)])), (vb, .inl (cy 2, w, .inl (sby U)))]) hM
  replace hM : hW D cy ad b μ P [(sa, .inr (9, [.null, .int 0, .int 0, .int 0])), (ba, .inr (10, [.ref vb, .int (0 : Int32), .int ml, .int (nI U.length)])), (vb, .inl (cy 2, w, .inl (sby U)))] H := hM
  refine lv_istore (lv' := [(4, .int (nI U.length)), (3, .ref vb), (0, .ref sa), (1, .ref ba), (2, .null)]) hx hb dJ0_init_db425_13 hl (by decide) rfl (fun ls hl => ?_)
  refine lv_aload_n hx hb dJ0_init_db425_15 rfl (lv_at hl 3 rfl) ?_
  replace hM := hW.right (X := [(sa, .inr (9, [.null, .int 0, .int 0, .int 0]))]) (T := [(ba, .inr (10, [.ref vb, .int (0 : Int32), .int ml, .int (nI U.length)])), (vb, .inl (cy 2, w, .inl (sby U)))]) hM
  refine h_callU (As := []) (rest := []) hx hb (hml.trans hl.1.symm) hown E hM hS xu_J5_isLatin1_aae02 kw_751 (E.kw kw_628) (c_blat) (ht_m (List.mem_of_getElem? (i := 0) rfl)) gC_J4.1 rfl rfl (Nat.le_of_ble_eq_true rfl) ⟨(Nat.le_of_ble_eq_true rfl), (Nat.le_of_ble_eq_true rfl)⟩ ⟨(Nat.le_of_ble_eq_true rfl), (Nat.le_of_ble_eq_true rfl)⟩ dJ0_init_db425_16 (fun rv H locs hZ hS => ?_)
  obtain ⟨rfl, hM⟩ := hZ
  replace hM := hW.left (X := [(sa, .inr (9, [.null, .int 0, .int 0, .int 0]))]) (T := [(ba, .inr (10, [.ref vb, .int (0 : Int32), .int ml, .int (nI U.length)])), (vb, .inl (cy 2, w, .inl (sby U)))]) hM
  replace hM : hW D cy ad b μ P [(sa, .inr (9, [.null, .int 0, .int 0, .int 0])), (ba, .inr (10, [.ref vb, .int (0 : Int32), .int ml, .int (nI U.length)])), (vb, .inl (cy 2, w, .inl (sby U)))] H := hM
  refine lv_if_eq (tgt := 41) hx hb dJ0_init_db425_19 (by decide) (fun c1 => ?_) (fun c1 => ?_)
  · exact absurd c1 (by decide)
  · refine lv_aload_n hx hb dJ0_init_db425_22 rfl (lv_at hl 2 rfl) ?_
    refine lv_iconst (v := (0 : Int32)) hx hb dJ0_init_db425_23 (by decide) ?_
    refine h_putF (j := 0) hx hb hown E hM hS hin rfl gC_J0 1 (by decide) rfl rfl (tyJ0_ok 1 (by decide)) rfl rfl kw_775 (Nat.le_of_ble_eq_true rfl) dJ0_init_db425_24 (fun H locs hM hS => ?_)
    replace hM : hW D cy ad b μ P [(sa, .inr (9, [.null, .int (0 : Int32), .int 0, .int 0])), (ba, .inr (10, [.ref vb, .int (0 : Int32), .int ml, .int (nI U.length)])), (vb, .inl (cy 2, w, .inl (sby U)))] H := hM
    refine lv_aload_n hx hb dJ0_init_db425_27 rfl (lv_at hl 2 rfl) ?_
    refine lv_aload_n hx hb dJ0_init_db425_28 rfl (lv_at hl 1 rfl) ?_
    refine lv_iconst (v := (0 : Int32)) hx hb dJ0_init_db425_29 (by decide) ?_
    refine lv_iload hx hb dJ0_init_db425_30 (lv_at hl 0 rfl) ?_
    replace hM := hW.right (X := [(sa, .inr (9, [.null, .int (0 : Int32), .int 0, .int 0])), (ba, .inr (10, [.ref vb, .int (0 : Int32), .int ml, .int (nI U.length)]))]) (T := [(vb, .inl (cy 2, w, .inl (sby U)))]) hM
    refine h_callS (As := [.ref vb, .int (0 : Int32), .int (nI U.length)]) (rest := [.ref sa]) hx hb (hml.trans hl.1.symm) hown E hM hS xs_J7_copyOfRange_39247 kw_752 (c_rng hUw hw2) rfl rfl (Nat.le_of_ble_eq_true rfl) ⟨(Nat.le_of_ble_eq_true rfl), (Nat.le_of_ble_eq_true rfl)⟩ ⟨(Nat.le_of_ble_eq_true rfl), (Nat.le_of_ble_eq_true rfl)⟩ dJ0_init_db425_32 (fun rv H locs hZ hS => ?_)
    obtain ⟨a9, rfl, hM⟩ := hZ
    replace hM := hW.left (X := [(sa, .inr (9, [.null, .int (0 : Int32), .int 0, .int 0])), (ba, .inr (10, [.ref vb, .int (0 : Int32), .int ml, .int (nI U.length)]))]) (T := [(vb, .inl (cy 2, w, .inl (sby U))), (a9, .inl (cy 2, U.length, .inl (sby U)))]) hM
    replace hM : hW D cy ad b μ P [(sa, .inr (9, [.null, .int (0 : Int32), .int 0, .int 0])), (ba, .inr (10, [.ref vb, .int (0 : Int32), .int ml, .int (nI U.length)])), (vb, .inl (cy 2, w, .inl (sby U))), (a9, .inl (cy 2, U.length, .inl (sby U)))] H := hM
    refine h_putF (j := 0) hx hb hown E hM hS hin rfl gC_J0 0 (by decide) rfl rfl (tyJ0_ok 0 (by decide)) rfl rfl kw_774 (Nat.le_of_ble_eq_true rfl) dJ0_init_db425_35 (fun H locs hM hS => ?_)
    replace hM : hW D cy ad b μ P [(sa, .inr (9, [.ref a9, .int (0 : Int32), .int 0, .int 0])), (ba, .inr (10, [.ref vb, .int (0 : Int32), .int ml, .int (nI U.length)])), (vb, .inl (cy 2, w, .inl (sby U))), (a9, .inl (cy 2, U.length, .inl (sby U)))] H := hM
    refine lv_goto (tgt := 97) hx hb dJ0_init_db425_38 (by decide) ?_
    exact h_vret hx hb hr hlocks (Nat.le_of_ble_eq_true rfl) (Nat.le_of_ble_eq_true rfl) ⟨_, rfl, hW.perm (List.Perm.append_left _ (x_rot4 _ _ _ _)) hM⟩ hS dJ0_init_db425_97
theorem xi_J0_init_db425 : gYI yJ0_init_db425 cJ0_init_db425 5 2 := ⟨kw_736, kw_64, kw_735, ⟨by decide +kernel, by decide +kernel⟩, by decide +kernel, rfl⟩
theorem dJ0_init_81219_0 : decode cJ0_init_81219 0 = .ok (.aload_n 0, 1) := by decide +kernel
theorem dJ0_init_81219_1 : decode cJ0_init_81219 1 = .ok (.aload_n 1, 1) := by decide +kernel
theorem dJ0_init_81219_2 : decode cJ0_init_81219 2 = .ok (.aconst_null, 1) := by decide +kernel
theorem dJ0_init_81219_3 : decode cJ0_init_81219 3 = .ok (.invokespecial 489, 3) := by decide +kernel
theorem dJ0_init_81219_6 : decode cJ0_init_81219 6 = .ok (.return_, 1) := by decide +kernel
set_option maxHeartbeats 4000000 in
set_option maxRecDepth 100000 in
theorem c_sin {l : Launch} {D : va_G} {cy : Nat → ClassId} {ad : Nat → Nat} {b : Nat} {μ : gM} {P : va_W} {sa ba vb w : Nat} {ml : Int32} {U : List Nat} (hUw : U.length ≤ w) (hw2 : w ≤ 2056) : Met l yJ0_init_81219 [.code yJ0_init_81219 cJ0_init_81219 2 none] ({ frames := 4, cells := 1, slots := 2056, locals := 110 } : Room) (va_Pc [.ref sa, .ref ba] (hB l D cy ad b μ P [(sa, .inr (9, [.null, .int 0, .int 0, .int 0])), (ba, .inr (10, [.ref vb, .int (0 : Int32), .int ml, .int (nI U.length)])), (vb, .inl (cy 2, w, .inl (sby U)))])) (hQ b (fun rv H => ∃ va : Nat, rv = none ∧ hW D cy ad b μ P (sB cy ba vb w ml U ++ [(sa, sO va), (va, sV cy U)]) H)) 1 2056 (hA b) := by
  refine va_MetF (cc := cJ0_init_81219) (maxL := 2) (ret := none) (by decide +kernel) rfl ?_
  intro p e s m args below meth c s₁ B hml0 hv
  obtain ⟨rfl, E, hM⟩ := hv
  obtain ⟨hx, hb, hml, hown, hlocks, hr⟩ := (gF_of B hml0 : gF p s m meth c cJ0_init_81219 RJ0 2 none)
  have hin : meth.name = "<init>" := (name_of_methodNamed B.named B.method).1
  have hS : va_S (hA b) s.heap s.heap [] := va_S.rf
  have hl := lv_entry ([.ref sa, .ref ba]) (n := 2) (Nat.le_of_ble_eq_true rfl)
  rw [lg_entry_eq]
  generalize (lg_sl ([.ref sa, .ref ba]) ++ List.replicate (2 - (lg_sl ([.ref sa, .ref ba])).length) Slot.unset).toArray = ls at hl ⊢
  have hl : lv_has ls 2 [(0, .ref sa), (1, .ref ba)] := hl
  refine lv_aload_n hx hb dJ0_init_81219_0 rfl (lv_at hl 0 rfl) ?_
  refine lv_aload_n hx hb dJ0_init_81219_1 rfl (lv_at hl 1 rfl) ?_
  refine lv_null hx hb dJ0_init_81219_2 ?_
  refine h_callI (As := [.ref ba, .null]) (rest := []) hx hb (hml.trans hl.1.symm) hown E hM hS xi_J0_init_db425 kw_734 (c_sin1 hUw hw2) rfl rfl (Nat.le_of_ble_eq_true rfl) ⟨(Nat.le_of_ble_eq_true rfl), (Nat.le_of_ble_eq_true rfl)⟩ ⟨(Nat.le_of_ble_eq_true rfl), (Nat.le_of_ble_eq_true rfl)⟩ dJ0_init_81219_3 (fun rv H locs hZ hS => ?_)
  obtain ⟨va9, rfl, hM⟩ := hZ
  replace hM : hW D cy ad b μ P [(ba, .inr (10, [.ref vb, .int (0 : Int32), .int ml, .int (nI U.length)])), (vb, .inl (cy 2, w, .inl (sby U))), (sa, .inr (9, [.ref va9, .int 0, .int 0, .int 0])), (va9, .inl (cy 2, U.length, .inl (sby U)))] H := hM
  exact h_vret hx hb hr hlocks (Nat.le_of_ble_eq_true rfl) (Nat.le_of_ble_eq_true rfl) ⟨_, rfl, hM⟩ hS dJ0_init_81219_6
theorem xi_J0_init_81219 : gYI yJ0_init_81219 cJ0_init_81219 2 1 := ⟨kw_733, kw_64, kw_732, ⟨by decide +kernel, by decide +kernel⟩, by decide +kernel, rfl⟩
theorem dJ4_toString_0e30d_0 : decode cJ4_toString_0e30d 0 = .ok (.new 18, 3) := by decide +kernel
theorem dJ4_toString_0e30d_3 : decode cJ4_toString_0e30d 3 = .ok (.dup, 1) := by decide +kernel
theorem dJ4_toString_0e30d_4 : decode cJ4_toString_0e30d 4 = .ok (.aload_n 0, 1) := by decide +kernel
theorem dJ4_toString_0e30d_5 : decode cJ4_toString_0e30d 5 = .ok (.invokespecial 137, 3) := by decide +kernel
theorem dJ4_toString_0e30d_8 : decode cJ4_toString_0e30d 8 = .ok (.areturn, 1) := by decide +kernel
set_option maxHeartbeats 4000000 in
set_option maxRecDepth 100000 in
theorem c_toS {l : Launch} {D : va_G} {cy : Nat → ClassId} {ad : Nat → Nat} {b : Nat} {μ : gM} {P : va_W} {ba vb w : Nat} {ml : Int32} {U : List Nat} (hUw : U.length ≤ w) (hw2 : w ≤ 2056) : Met l yJ4_toString_0e30d [.code yJ4_toString_0e30d cJ4_toString_0e30d 1 (some (.object "java/lang/String"))] ({ frames := 5, cells := 2, slots := 2060, locals := 131 } : Room) (va_Pc [.ref ba] (hB l D cy ad b μ P [(ba, .inr (10, [.ref vb, .int (0 : Int32), .int ml, .int (nI U.length)])), (vb, .inl (cy 2, w, .inl (sby U)))])) (hQ b (fun rv H => ∃ sa va : Nat, rv = some (.ref sa) ∧ hW D cy ad b μ P (sB cy ba vb w ml U ++ [(sa, sO va), (va, sV cy U)]) H)) 2 2060 (hA b) := by
  refine va_MetF (cc := cJ4_toString_0e30d) (maxL := 1) (ret := (some (.object "java/lang/String"))) (by decide +kernel) rfl ?_
  intro p e s m args below meth c s₁ B hml0 hv
  obtain ⟨rfl, E, hM⟩ := hv
  obtain ⟨hx, hb, hml, hown, hlocks, hr⟩ := (gF_of B hml0 : gF p s m meth c cJ4_toString_0e30d RJ4 1 (some (.object "java/lang/String")))
  have hS : va_S (hA b) s.heap s.heap [] := va_S.rf
  have hl := lv_entry ([.ref ba]) (n := 1) (Nat.le_of_ble_eq_true rfl)
  rw [lg_entry_eq]
  generalize (lg_sl ([.ref ba]) ++ List.replicate (1 - (lg_sl ([.ref ba])).length) Slot.unset).toArray = ls at hl ⊢
  have hl : lv_has ls 1 [(0, .ref ba)] := hl
  refine h_new hx hb hown E hM hS gC_J0 kw_729 kw_730 kw_64 (fs := [.null, .int (0 : Int32), .int (0 : Int32), .int (0 : Int32)]) (by decide +kernel) (Nat.le_of_ble_eq_true rfl) (Nat.le_of_ble_eq_true rfl) dJ4_toString_0e30d_0 (fun a1 H hM hS => ?_)
  replace hM : hW D cy ad b μ P [(ba, .inr (10, [.ref vb, .int (0 : Int32), .int ml, .int (nI U.length)])), (vb, .inl (cy 2, w, .inl (sby U))), (a1, .inr (9, [.null, .int (0 : Int32), .int (0 : Int32), .int (0 : Int32)]))] H := hM
  refine lv_dup hx hb dJ4_toString_0e30d_3 rfl ?_
  refine lv_aload_n hx hb dJ4_toString_0e30d_4 rfl (lv_at hl 0 rfl) ?_
  replace hM : hW D cy ad b μ P [(a1, .inr (9, [.null, .int (0 : Int32), .int (0 : Int32), .int (0 : Int32)])), (ba, .inr (10, [.ref vb, .int (0 : Int32), .int ml, .int (nI U.length)])), (vb, .inl (cy 2, w, .inl (sby U)))] H := hW.perm (List.Perm.append_left _ (x_rot3 _ _ _)) hM
  refine h_callI (As := [.ref ba]) (rest := [.ref a1]) hx hb (hml.trans hl.1.symm) hown E hM hS xi_J0_init_81219 kw_731 (c_sin hUw hw2) rfl rfl (Nat.le_of_ble_eq_true rfl) ⟨(Nat.le_of_ble_eq_true rfl), (Nat.le_of_ble_eq_true rfl)⟩ ⟨(Nat.le_of_ble_eq_true rfl), (Nat.le_of_ble_eq_true rfl)⟩ dJ4_toString_0e30d_5 (fun rv H locs hZ hS => ?_)
  obtain ⟨va9, rfl, hM⟩ := hZ
  replace hM : hW D cy ad b μ P [(ba, .inr (10, [.ref vb, .int (0 : Int32), .int ml, .int (nI U.length)])), (vb, .inl (cy 2, w, .inl (sby U))), (a1, .inr (9, [.ref va9, .int 0, .int 0, .int 0])), (va9, .inl (cy 2, U.length, .inl (sby U)))] H := hM
  exact h_aret hx hb hr (Or.inl ⟨_, rfl⟩) hlocks (Nat.le_of_ble_eq_true rfl) (Nat.le_of_ble_eq_true rfl) ⟨_, _, rfl, hM⟩ hS dJ4_toString_0e30d_8

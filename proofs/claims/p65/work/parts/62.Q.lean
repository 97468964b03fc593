theorem dJx4a65c_add_72be8_0 : decode cJx4a65c_add_72be8 0 = .ok (.iload_n 3, 1) := by decide +kernel
theorem dJx4a65c_add_72be8_1 : decode cJx4a65c_add_72be8 1 = .ok (.aload_n 2, 1) := by decide +kernel
theorem dJx4a65c_add_72be8_2 : decode cJx4a65c_add_72be8 2 = .ok (.arraylength, 1) := by decide +kernel
theorem dJx4a65c_add_72be8_3 : decode cJx4a65c_add_72be8 3 = .ok (.if_icmp .ne 8, 3) := by decide +kernel
theorem dJx4a65c_add_72be8_6 : decode cJx4a65c_add_72be8 6 = .ok (.aload_n 0, 1) := by decide +kernel
theorem dJx4a65c_add_72be8_7 : decode cJx4a65c_add_72be8 7 = .ok (.invokevirtual 129, 3) := by decide +kernel
theorem dJx4a65c_add_72be8_10 : decode cJx4a65c_add_72be8 10 = .ok (.astore_n 2, 1) := by decide +kernel
theorem dJx4a65c_add_72be8_11 : decode cJx4a65c_add_72be8 11 = .ok (.aload_n 2, 1) := by decide +kernel
theorem dJx4a65c_add_72be8_12 : decode cJx4a65c_add_72be8 12 = .ok (.iload_n 3, 1) := by decide +kernel
theorem dJx4a65c_add_72be8_13 : decode cJx4a65c_add_72be8 13 = .ok (.aload_n 1, 1) := by decide +kernel
theorem dJx4a65c_add_72be8_14 : decode cJx4a65c_add_72be8 14 = .ok (.aastore, 1) := by decide +kernel
theorem dJx4a65c_add_72be8_15 : decode cJx4a65c_add_72be8 15 = .ok (.aload_n 0, 1) := by decide +kernel
theorem dJx4a65c_add_72be8_16 : decode cJx4a65c_add_72be8 16 = .ok (.iload_n 3, 1) := by decide +kernel
theorem dJx4a65c_add_72be8_17 : decode cJx4a65c_add_72be8 17 = .ok (.iconst 1, 1) := by decide +kernel
theorem dJx4a65c_add_72be8_18 : decode cJx4a65c_add_72be8 18 = .ok (.iadd, 1) := by decide +kernel
theorem dJx4a65c_add_72be8_19 : decode cJx4a65c_add_72be8 19 = .ok (.putfield 48, 3) := by decide +kernel
theorem dJx4a65c_add_72be8_22 : decode cJx4a65c_add_72be8 22 = .ok (.return_, 1) := by decide +kernel
set_option maxHeartbeats 4000000 in
set_option maxRecDepth 100000 in
theorem c_addpA {l : Launch} {D : va_G} {cy : Nat → ClassId} {ad : Nat → Nat} {b : Nat} {μ : gM} {P : va_W} {al ar n N v kk9 : Nat} {mc : Int32} {g : Nat → Option Nat} {f9 : Nat → Int32} (hv9 : (v, .inl (cy 0, kk9, .inl f9)) ∈ P) (hnN : n < N) (hN2 : N < 2 ^ 31) : Met l yJx4a65c_add_72be8 [.code yJx4a65c_add_72be8 cJx4a65c_add_72be8 4 none] ({ frames := 0, cells := 0, slots := 0, locals := 0 } : Room) (va_Pc [.ref al, .ref v, .ref ar, .int (nI n)] (hB l D cy ad b μ P [(al, .inr (13, [.int mc, .ref ar, .int (nI n)])), (ar, .inl (cy 4, N, .inr (.inr (.inr (.inr g)))))])) (hQ b (fun rv H => rv = none ∧ hW D cy ad b μ P [(al, .inr (13, [.int mc, .ref ar, .int (nI (n + 1))])), (ar, .inl (cy 4, N, .inr (.inr (.inr (.inr (va_up g n (some v)))))))] H)) 0 0 (hA b) := by
  refine va_MetF (cc := cJx4a65c_add_72be8) (maxL := 4) (ret := none) (by decide +kernel) rfl ?_
  intro p e s m args below meth c s₁ B hml0 hv
  obtain ⟨rfl, E, hM⟩ := hv
  obtain ⟨hx, hb, hml, hown, hlocks, hr⟩ := (gF_of B hml0 : gF p s m meth c cJx4a65c_add_72be8 RJx4a65c 4 none)
  have hS : va_S (hA b) s.heap s.heap [] := va_S.rf
  have hl := lv_entry ([.ref al, .ref v, .ref ar, .int (nI n)]) (n := 4) (Nat.le_of_ble_eq_true rfl)
  rw [lg_entry_eq]
  generalize (lg_sl ([.ref al, .ref v, .ref ar, .int (nI n)]) ++ List.replicate (4 - (lg_sl ([.ref al, .ref v, .ref ar, .int (nI n)])).length) Slot.unset).toArray = ls at hl ⊢
  have hl : lv_has ls 4 [(0, .ref al), (1, .ref v), (2, .ref ar), (3, .int (nI n))] := hl
  refine lv_iload_n hx hb dJx4a65c_add_72be8_0 rfl (lv_at hl 3 rfl) ?_
  refine lv_aload_n hx hb dJx4a65c_add_72be8_1 rfl (lv_at hl 2 rfl) ?_
  refine h_alen hx hb E hM 4 (ty := .object "java/lang/Object") (ht_m (List.mem_of_getElem? (i := 1) rfl)) rfl (v := nI N) rfl dJx4a65c_add_72be8_2 ?_
  refine lv_icmp_ne (tgt := 11) hx hb dJx4a65c_add_72be8_3 (by decide) (fun c1 => ?_) (fun c1 => ?_)
  · refine lv_aload_n hx hb dJx4a65c_add_72be8_11 rfl (lv_at hl 2 rfl) ?_
    refine lv_iload_n hx hb dJx4a65c_add_72be8_12 rfl (lv_at hl 3 rfl) ?_
    refine lv_aload_n hx hb dJx4a65c_add_72be8_13 rfl (lv_at hl 1 rfl) ?_
    refine h_astA (j := 1) hx hb E hM hS rfl (hp_m hv9) (i := nI n) (x_in hnN hN2) dJx4a65c_add_72be8_14 (fun H locs hM hS => ?_)
    rw [nI_clamp (by omega)] at hM
    replace hM : hW D cy ad b μ P [(al, .inr (13, [.int mc, .ref ar, .int (nI n)])), (ar, .inl (cy 4, N, .inr (.inr (.inr (.inr (va_up g n (some v)))))))] H := hM
    refine lv_aload_n hx hb dJx4a65c_add_72be8_15 rfl (lv_at hl 0 rfl) ?_
    refine lv_iload_n hx hb dJx4a65c_add_72be8_16 rfl (lv_at hl 3 rfl) ?_
    refine lv_iconst (v := (1 : Int32)) hx hb dJx4a65c_add_72be8_17 (by decide) ?_
    refine lv_iadd hx hb dJx4a65c_add_72be8_18 ?_
    rw [show (nI n + (1 : Int32)) = nI (n + 1) from (nI_1 n)]
    refine h_put (j := 0) hx hb hown E hM hS rfl gC_Jx4a65c 2 (by decide) rfl (tyJx4a65c_ok 2 (by decide)) rfl rfl kw_528 (Nat.le_of_ble_eq_true rfl) dJx4a65c_add_72be8_19 (fun H locs hM hS => ?_)
    replace hM : hW D cy ad b μ P [(al, .inr (13, [.int mc, .ref ar, .int (nI (n + 1))])), (ar, .inl (cy 4, N, .inr (.inr (.inr (.inr (va_up g n (some v)))))))] H := hM
    exact h_vret hx hb hr hlocks (Nat.le_of_ble_eq_true rfl) (Nat.le_of_ble_eq_true rfl) ⟨rfl, hM⟩ hS dJx4a65c_add_72be8_22
  · exact absurd c1 (fun z => by have := (nI_eq (by omega) (by omega)).mp z; omega)
theorem xy_Jx4a65c_add_72be8 : gYV yJx4a65c_add_72be8 cJx4a65c_add_72be8 4 none 3 := ⟨kw_826, kw_61, kw_825, kw_5, ⟨by decide +kernel, by decide +kernel⟩, by decide +kernel⟩
theorem dJx4a65c_add_9ea2d_0 : decode cJx4a65c_add_9ea2d 0 = .ok (.aload_n 0, 1) := by decide +kernel
theorem dJx4a65c_add_9ea2d_1 : decode cJx4a65c_add_9ea2d 1 = .ok (.dup, 1) := by decide +kernel
theorem dJx4a65c_add_9ea2d_2 : decode cJx4a65c_add_9ea2d 2 = .ok (.getfield 63, 3) := by decide +kernel
theorem dJx4a65c_add_9ea2d_5 : decode cJx4a65c_add_9ea2d 5 = .ok (.iconst 1, 1) := by decide +kernel
theorem dJx4a65c_add_9ea2d_6 : decode cJx4a65c_add_9ea2d 6 = .ok (.iadd, 1) := by decide +kernel
theorem dJx4a65c_add_9ea2d_7 : decode cJx4a65c_add_9ea2d 7 = .ok (.putfield 63, 3) := by decide +kernel
theorem dJx4a65c_add_9ea2d_10 : decode cJx4a65c_add_9ea2d 10 = .ok (.aload_n 0, 1) := by decide +kernel
theorem dJx4a65c_add_9ea2d_11 : decode cJx4a65c_add_9ea2d 11 = .ok (.aload_n 1, 1) := by decide +kernel
theorem dJx4a65c_add_9ea2d_12 : decode cJx4a65c_add_9ea2d 12 = .ok (.aload_n 0, 1) := by decide +kernel
theorem dJx4a65c_add_9ea2d_13 : decode cJx4a65c_add_9ea2d 13 = .ok (.getfield 9, 3) := by decide +kernel
theorem dJx4a65c_add_9ea2d_16 : decode cJx4a65c_add_9ea2d 16 = .ok (.aload_n 0, 1) := by decide +kernel
theorem dJx4a65c_add_9ea2d_17 : decode cJx4a65c_add_9ea2d 17 = .ok (.getfield 48, 3) := by decide +kernel
theorem dJx4a65c_add_9ea2d_20 : decode cJx4a65c_add_9ea2d 20 = .ok (.invokevirtual 131, 3) := by decide +kernel
theorem dJx4a65c_add_9ea2d_23 : decode cJx4a65c_add_9ea2d 23 = .ok (.iconst 1, 1) := by decide +kernel
theorem dJx4a65c_add_9ea2d_24 : decode cJx4a65c_add_9ea2d 24 = .ok (.ireturn, 1) := by decide +kernel
set_option maxHeartbeats 4000000 in
set_option maxRecDepth 100000 in
theorem c_addA {l : Launch} {D : va_G} {cy : Nat → ClassId} {ad : Nat → Nat} {b : Nat} {μ : gM} {P : va_W} {al ar n N v kk9 : Nat} {mc : Int32} {g : Nat → Option Nat} {f9 : Nat → Int32} (hv9 : (v, .inl (cy 0, kk9, .inl f9)) ∈ P) (hnN : n < N) (hN2 : N < 2 ^ 31) : Met l yJx4a65c_add_9ea2d [.code yJx4a65c_add_9ea2d cJx4a65c_add_9ea2d 2 (some .boolean)] ({ frames := 1, cells := 0, slots := 0, locals := 23 } : Room) (va_Pc [.ref al, .ref v] (hB l D cy ad b μ P [(al, .inr (13, [.int mc, .ref ar, .int (nI n)])), (ar, .inl (cy 4, N, .inr (.inr (.inr (.inr g)))))])) (hQ b (fun rv H => rv = some (.int 1) ∧ hW D cy ad b μ P [(al, .inr (13, [.int (mc + (1 : Int32)), .ref ar, .int (nI (n + 1))])), (ar, .inl (cy 4, N, .inr (.inr (.inr (.inr (va_up g n (some v)))))))] H)) 0 0 (hA b) := by
  refine va_MetF (cc := cJx4a65c_add_9ea2d) (maxL := 2) (ret := (some .boolean)) (by decide +kernel) rfl ?_
  intro p e s m args below meth c s₁ B hml0 hv
  obtain ⟨rfl, E, hM⟩ := hv
  obtain ⟨hx, hb, hml, hown, hlocks, hr⟩ := (gF_of B hml0 : gF p s m meth c cJx4a65c_add_9ea2d RJx4a65c 2 (some .boolean))
  have hS : va_S (hA b) s.heap s.heap [] := va_S.rf
  have hl := lv_entry ([.ref al, .ref v]) (n := 2) (Nat.le_of_ble_eq_true rfl)
  rw [lg_entry_eq]
  generalize (lg_sl ([.ref al, .ref v]) ++ List.replicate (2 - (lg_sl ([.ref al, .ref v])).length) Slot.unset).toArray = ls at hl ⊢
  have hl : lv_has ls 2 [(0, .ref al), (1, .ref v)] := hl
  refine lv_aload_n hx hb dJx4a65c_add_9ea2d_0 rfl (lv_at hl 0 rfl) ?_
  refine lv_dup hx hb dJx4a65c_add_9ea2d_1 rfl ?_
  refine h_getU hx hb hown E hM (ht_m (List.mem_of_getElem? (i := 0) rfl)) gC_Jx4a65c 0 (by decide) (v := .int mc) rfl kw_532 kz_531 dJx4a65c_add_9ea2d_2 ?_
  refine lv_iconst (v := (1 : Int32)) hx hb dJx4a65c_add_9ea2d_5 (by decide) ?_
  refine lv_iadd hx hb dJx4a65c_add_9ea2d_6 ?_
  refine h_putU (j := 0) hx hb hown E hM hS rfl gC_Jx4a65c 0 (by decide) rfl (tyJx4a65c_ok 0 (by decide)) rfl rfl kw_532 kz_531 (Nat.le_of_ble_eq_true rfl) dJx4a65c_add_9ea2d_7 (fun H locs hM hS => ?_)
  replace hM : hW D cy ad b μ P [(al, .inr (13, [.int (mc + (1 : Int32)), .ref ar, .int (nI n)])), (ar, .inl (cy 4, N, .inr (.inr (.inr (.inr g)))))] H := hM
  refine lv_aload_n hx hb dJx4a65c_add_9ea2d_10 rfl (lv_at hl 0 rfl) ?_
  refine lv_aload_n hx hb dJx4a65c_add_9ea2d_11 rfl (lv_at hl 1 rfl) ?_
  refine lv_aload_n hx hb dJx4a65c_add_9ea2d_12 rfl (lv_at hl 0 rfl) ?_
  refine h_get hx hb hown E hM (ht_m (List.mem_of_getElem? (i := 0) rfl)) gC_Jx4a65c 1 (by decide) (v := .ref ar) rfl kw_525 dJx4a65c_add_9ea2d_13 ?_
  refine lv_aload_n hx hb dJx4a65c_add_9ea2d_16 rfl (lv_at hl 0 rfl) ?_
  refine h_get hx hb hown E hM (ht_m (List.mem_of_getElem? (i := 0) rfl)) gC_Jx4a65c 2 (by decide) (v := .int (nI n)) rfl kw_528 dJx4a65c_add_9ea2d_17 ?_
  refine h_callV (As := [.ref v, .ref ar, .int (nI n)]) (rest := []) hx hb (hml.trans hl.1.symm) hown E hM hS xy_Jx4a65c_add_72be8 kw_823 (c_addpA hv9 hnN hN2) (ht_m (List.mem_of_getElem? (i := 0) rfl)) gC_Jx4a65c.1 rfl rfl (Nat.le_of_ble_eq_true rfl) ⟨(Nat.le_of_ble_eq_true rfl), (Nat.le_of_ble_eq_true rfl)⟩ ⟨(Nat.le_of_ble_eq_true rfl), (Nat.le_of_ble_eq_true rfl)⟩ dJx4a65c_add_9ea2d_20 (fun rv H locs hZ hS => ?_)
  obtain ⟨rfl, hM⟩ := hZ
  refine lv_iconst (v := (1 : Int32)) hx hb dJx4a65c_add_9ea2d_23 (by decide) ?_
  exact h_zret hx hb hr hlocks (Nat.le_of_ble_eq_true rfl) (Nat.le_of_ble_eq_true rfl) rfl ⟨rfl, hM⟩ hS dJx4a65c_add_9ea2d_24

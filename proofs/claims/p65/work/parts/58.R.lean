theorem xy_X8_areLines : gYV yX8_areLines cX8_areLines 4 (some .boolean) 0 := ⟨kw_1069, kw_50, kw_1068, kw_26, ⟨by decide +kernel, by decide +kernel⟩, by decide +kernel⟩
theorem xy_X8_areWays : gYV yX8_areWays cX8_areWays 7 (some .boolean) 0 := ⟨kw_1230, kw_50, kw_1229, kw_30, ⟨by decide +kernel, by decide +kernel⟩, by decide +kernel⟩
theorem xy_X8_areLoops : gYV yX8_areLoops cX8_areLoops 15 (some .boolean) 0 := ⟨kw_1326, kw_50, kw_1325, kw_39, ⟨by decide +kernel, by decide +kernel⟩, by decide +kernel⟩
theorem xy_X8_areHeights : gYV yX8_areHeights cX8_areHeights 4 (some .boolean) 0 := ⟨kw_1384, kw_50, kw_1383, kw_42, ⟨by decide +kernel, by decide +kernel⟩, by decide +kernel⟩
theorem dX8_isSame_0 : decode cX8_isSame 0 = .ok (.aload_n 0, 1) := by decide +kernel
theorem dX8_isSame_1 : decode cX8_isSame 1 = .ok (.invokevirtual 287, 3) := by decide +kernel
theorem dX8_isSame_4 : decode cX8_isSame 4 = .ok (.ifCond .eq 28, 3) := by decide +kernel
theorem dX8_isSame_7 : decode cX8_isSame 7 = .ok (.aload_n 0, 1) := by decide +kernel
theorem dX8_isSame_8 : decode cX8_isSame 8 = .ok (.invokevirtual 290, 3) := by decide +kernel
theorem dX8_isSame_11 : decode cX8_isSame 11 = .ok (.ifCond .eq 21, 3) := by decide +kernel
theorem dX8_isSame_14 : decode cX8_isSame 14 = .ok (.aload_n 0, 1) := by decide +kernel
theorem dX8_isSame_15 : decode cX8_isSame 15 = .ok (.invokevirtual 293, 3) := by decide +kernel
theorem dX8_isSame_18 : decode cX8_isSame 18 = .ok (.ifCond .eq 14, 3) := by decide +kernel
theorem dX8_isSame_21 : decode cX8_isSame 21 = .ok (.aload_n 0, 1) := by decide +kernel
theorem dX8_isSame_22 : decode cX8_isSame 22 = .ok (.invokevirtual 296, 3) := by decide +kernel
theorem dX8_isSame_25 : decode cX8_isSame 25 = .ok (.ifCond .eq 7, 3) := by decide +kernel
theorem dX8_isSame_28 : decode cX8_isSame 28 = .ok (.iconst 1, 1) := by decide +kernel
theorem dX8_isSame_29 : decode cX8_isSame 29 = .ok (.goto 4, 3) := by decide +kernel
theorem dX8_isSame_32 : decode cX8_isSame 32 = .ok (.iconst 0, 1) := by decide +kernel
theorem dX8_isSame_33 : decode cX8_isSame 33 = .ok (.ireturn, 1) := by decide +kernel
def f_L_isSame  (ν μ : gM) : Option ((Bool) × gM) :=
  Option.bind (f_L_areLines  ν μ) (fun q1 => if ((b2i q1.1) = 0) then some (false, q1.2) else Option.bind (f_L_areWays  ν q1.2) (fun q3 => if ((b2i q3.1) = 0) then some (false, q3.2) else Option.bind (f_L_areLoops  ν q3.2) (fun q5 => if ((b2i q5.1) = 0) then some (false, q5.2) else Option.bind (f_L_areHeights  ν q5.2) (fun q7 => if ((b2i q7.1) = 0) then some (false, q7.2) else some (true, q7.2)))))
set_option maxHeartbeats 4000000 in
set_option maxRecDepth 100000 in
theorem c_L_isSame {l : Launch} {D : va_G} {cy : Nat → ClassId} {ad : Nat → Nat} {b : Nat} {la : Nat → Nat → Nat} {μ ν : gM} {P : va_W}  {RES : (Bool) × gM} (hY : lY cy ad la ν P) (h : f_L_isSame  ν μ = some RES) : Met l yX8_isSame [.code yX8_isSame cX8_isSame 1 (some .boolean)] ({ frames := 8, cells := 18180, slots := 73204, locals := 197 } : Room) (va_Pc [.ref (la 0 0)] (hB l D cy ad b μ P [])) (hQ b (fun rv H => rv = some (.int (b2i RES.1)) ∧ hW D cy ad b RES.2 P [] H)) 18180 73204 (hA b) := by
  refine Met.ofW (cc := cX8_isSame) (maxL := 1) (ret := (some .boolean)) (by decide +kernel) rfl ?_
  intro p e s m args below meth c s₁ B hml0 hv
  obtain ⟨rfl, E, hM⟩ := hv
  have F : gF p s m meth c cX8_isSame RX8 1 (some .boolean) := gF_of B hml0
  obtain ⟨hx, hb, hml, hown, hlocks, hr⟩ := id F
  have hS : va_S (hA b) s.heap s.heap [] := va_S.rf
  have hl := lv_entry ([.ref (la 0 0)]) (n := 1) (Nat.le_of_ble_eq_true rfl)
  rw [lg_entry_eq]
  generalize (lg_sl ([.ref (la 0 0)]) ++ List.replicate (1 - (lg_sl ([.ref (la 0 0)])).length) Slot.unset).toArray = ls at hl ⊢
  have hl : lv_has ls 1 [(0, .ref (la 0 0))] := hl
  unfold f_L_isSame at h
  refine lv_aload_n hx hb dX8_isSame_0 rfl (lv_at hl 0 rfl) ?_
  obtain ⟨q1, hq1, h⟩ := gbind_e h
  refine h_callV (As := []) (rest := []) hx hb (hml.trans hl.1.symm) hown E hM hS xy_X8_areLines kw_1066 (c_L_areLines hY hq1) (hp_m (hY.c1 0 rfl)) gC_X8.1 rfl rfl (Nat.le_of_ble_eq_true rfl) ⟨(Nat.le_of_ble_eq_true rfl), (Nat.le_of_ble_eq_true rfl)⟩ ⟨(show _ ≤ 18180 by omega), (show _ ≤ 73204 by omega)⟩ dX8_isSame_1 (fun rv H locs hZ hS => ?_)
  obtain ⟨rfl, hM⟩ := hZ
  refine lv_if_eq (tgt := 32) hx hb dX8_isSame_4 (by decide) (fun c2 => ?_) (fun c2 => ?_)
  · replace h := gif_t c2 h
    refine lv_iconst (v := (0 : Int32)) hx hb dX8_isSame_32 (by decide) ?_
    obtain rfl := Option.some.inj h
    exact h_zret (v := b2i false) hx hb hr hlocks (by omega) (by omega) (b2i_nar false) ⟨rfl, (fun _ _ h => h) _ _ (hW.drop hM)⟩ hS dX8_isSame_33
  · replace h := gif_f c2 h
    refine lv_aload_n hx hb dX8_isSame_7 rfl (lv_at hl 0 rfl) ?_
    obtain ⟨q3, hq3, h⟩ := gbind_e h
    refine h_callV (As := []) (rest := []) hx hb (hml.trans hl.1.symm) hown E hM hS xy_X8_areWays kw_1227 (c_L_areWays hY hq3) (hp_m (hY.c1 0 rfl)) gC_X8.1 rfl rfl (Nat.le_of_ble_eq_true rfl) ⟨(Nat.le_of_ble_eq_true rfl), (Nat.le_of_ble_eq_true rfl)⟩ ⟨(show _ ≤ 18180 by omega), (show _ ≤ 73204 by omega)⟩ dX8_isSame_8 (fun rv H locs hZ hS => ?_)
    obtain ⟨rfl, hM⟩ := hZ
    refine lv_if_eq (tgt := 32) hx hb dX8_isSame_11 (by decide) (fun c4 => ?_) (fun c4 => ?_)
    · replace h := gif_t c4 h
      refine lv_iconst (v := (0 : Int32)) hx hb dX8_isSame_32 (by decide) ?_
      obtain rfl := Option.some.inj h
      exact h_zret (v := b2i false) hx hb hr hlocks (by omega) (by omega) (b2i_nar false) ⟨rfl, (fun _ _ h => h) _ _ (hW.drop hM)⟩ hS dX8_isSame_33
    · replace h := gif_f c4 h
      refine lv_aload_n hx hb dX8_isSame_14 rfl (lv_at hl 0 rfl) ?_
      obtain ⟨q5, hq5, h⟩ := gbind_e h
      refine h_callV (As := []) (rest := []) hx hb (hml.trans hl.1.symm) hown E hM hS xy_X8_areLoops kw_1323 (c_L_areLoops hY hq5) (hp_m (hY.c1 0 rfl)) gC_X8.1 rfl rfl (Nat.le_of_ble_eq_true rfl) ⟨(Nat.le_of_ble_eq_true rfl), (Nat.le_of_ble_eq_true rfl)⟩ ⟨(show _ ≤ 18180 by omega), (show _ ≤ 73204 by omega)⟩ dX8_isSame_15 (fun rv H locs hZ hS => ?_)
      obtain ⟨rfl, hM⟩ := hZ
      refine lv_if_eq (tgt := 32) hx hb dX8_isSame_18 (by decide) (fun c6 => ?_) (fun c6 => ?_)
      · replace h := gif_t c6 h
        refine lv_iconst (v := (0 : Int32)) hx hb dX8_isSame_32 (by decide) ?_
        obtain rfl := Option.some.inj h
        exact h_zret (v := b2i false) hx hb hr hlocks (by omega) (by omega) (b2i_nar false) ⟨rfl, (fun _ _ h => h) _ _ (hW.drop hM)⟩ hS dX8_isSame_33
      · replace h := gif_f c6 h
        refine lv_aload_n hx hb dX8_isSame_21 rfl (lv_at hl 0 rfl) ?_
        obtain ⟨q7, hq7, h⟩ := gbind_e h
        refine h_callV (As := []) (rest := []) hx hb (hml.trans hl.1.symm) hown E hM hS xy_X8_areHeights kw_1381 (c_L_areHeights hY hq7) (hp_m (hY.c1 0 rfl)) gC_X8.1 rfl rfl (Nat.le_of_ble_eq_true rfl) ⟨(Nat.le_of_ble_eq_true rfl), (Nat.le_of_ble_eq_true rfl)⟩ ⟨(show _ ≤ 18180 by omega), (show _ ≤ 73204 by omega)⟩ dX8_isSame_22 (fun rv H locs hZ hS => ?_)
        obtain ⟨rfl, hM⟩ := hZ
        refine lv_if_eq (tgt := 32) hx hb dX8_isSame_25 (by decide) (fun c8 => ?_) (fun c8 => ?_)
        · replace h := gif_t c8 h
          refine lv_iconst (v := (0 : Int32)) hx hb dX8_isSame_32 (by decide) ?_
          obtain rfl := Option.some.inj h
          exact h_zret (v := b2i false) hx hb hr hlocks (by omega) (by omega) (b2i_nar false) ⟨rfl, (fun _ _ h => h) _ _ (hW.drop hM)⟩ hS dX8_isSame_33
        · replace h := gif_f c8 h
          refine lv_iconst (v := (1 : Int32)) hx hb dX8_isSame_28 (by decide) ?_
          refine lv_goto (tgt := 33) hx hb dX8_isSame_29 (by decide) ?_
          obtain rfl := Option.some.inj h
          exact h_zret (v := b2i true) hx hb hr hlocks (by omega) (by omega) (b2i_nar true) ⟨rfl, (fun _ _ h => h) _ _ (hW.drop hM)⟩ hS dX8_isSame_33

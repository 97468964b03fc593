theorem dX7_load_0 : decode cX7_load 0 = .ok (.iload_n 1, 1) := by decide +kernel
theorem dX7_load_1 : decode cX7_load 1 = .ok (.ifCond .lt 14, 3) := by decide +kernel
theorem dX7_load_4 : decode cX7_load 4 = .ok (.iload_n 1, 1) := by decide +kernel
theorem dX7_load_5 : decode cX7_load 5 = .ok (.aload_n 0, 1) := by decide +kernel
theorem dX7_load_6 : decode cX7_load 6 = .ok (.getfield 14, 3) := by decide +kernel
theorem dX7_load_9 : decode cX7_load 9 = .ok (.getfield 62, 3) := by decide +kernel
theorem dX7_load_12 : decode cX7_load 12 = .ok (.if_icmp .le 6, 3) := by decide +kernel
theorem dX7_load_15 : decode cX7_load 15 = .ok (.bipush (-2), 2) := by decide +kernel
theorem dX7_load_17 : decode cX7_load 17 = .ok (.ireturn, 1) := by decide +kernel
theorem dX7_load_18 : decode cX7_load 18 = .ok (.aload_n 0, 1) := by decide +kernel
theorem dX7_load_19 : decode cX7_load 19 = .ok (.getfield 14, 3) := by decide +kernel
theorem dX7_load_22 : decode cX7_load 22 = .ok (.aload_n 0, 1) := by decide +kernel
theorem dX7_load_23 : decode cX7_load 23 = .ok (.getfield 55, 3) := by decide +kernel
theorem dX7_load_26 : decode cX7_load 26 = .ok (.iload_n 1, 1) := by decide +kernel
theorem dX7_load_27 : decode cX7_load 27 = .ok (.invokevirtual 69, 3) := by decide +kernel
theorem dX7_load_30 : decode cX7_load 30 = .ok (.istore_n 2, 1) := by decide +kernel
theorem dX7_load_31 : decode cX7_load 31 = .ok (.aload_n 0, 1) := by decide +kernel
theorem dX7_load_32 : decode cX7_load 32 = .ok (.getfield 14, 3) := by decide +kernel
theorem dX7_load_35 : decode cX7_load 35 = .ok (.iconst 0, 1) := by decide +kernel
theorem dX7_load_36 : decode cX7_load 36 = .ok (.putfield 62, 3) := by decide +kernel
theorem dX7_load_39 : decode cX7_load 39 = .ok (.iload_n 2, 1) := by decide +kernel
theorem dX7_load_40 : decode cX7_load 40 = .ok (.ifCond .ge 16, 3) := by decide +kernel
theorem dX7_load_43 : decode cX7_load 43 = .ok (.aload_n 0, 1) := by decide +kernel
theorem dX7_load_44 : decode cX7_load 44 = .ok (.aload_n 0, 1) := by decide +kernel
theorem dX7_load_45 : decode cX7_load 45 = .ok (.getfield 14, 3) := by decide +kernel
theorem dX7_load_48 : decode cX7_load 48 = .ok (.getfield 73, 3) := by decide +kernel
theorem dX7_load_51 : decode cX7_load 51 = .ok (.putfield 58, 3) := by decide +kernel
theorem dX7_load_54 : decode cX7_load 54 = .ok (.iload_n 2, 1) := by decide +kernel
theorem dX7_load_55 : decode cX7_load 55 = .ok (.ireturn, 1) := by decide +kernel
theorem dX7_load_56 : decode cX7_load 56 = .ok (.aload_n 0, 1) := by decide +kernel
theorem dX7_load_57 : decode cX7_load 57 = .ok (.iconst (-1), 1) := by decide +kernel
theorem dX7_load_58 : decode cX7_load 58 = .ok (.putfield 58, 3) := by decide +kernel
theorem dX7_load_61 : decode cX7_load 61 = .ok (.aload_n 0, 1) := by decide +kernel
theorem dX7_load_62 : decode cX7_load 62 = .ok (.getfield 51, 3) := by decide +kernel
theorem dX7_load_65 : decode cX7_load 65 = .ok (.astore_n 3, 1) := by decide +kernel
theorem dX7_load_66 : decode cX7_load 66 = .ok (.aload_n 0, 1) := by decide +kernel
theorem dX7_load_67 : decode cX7_load 67 = .ok (.aload_n 0, 1) := by decide +kernel
theorem dX7_load_68 : decode cX7_load 68 = .ok (.getfield 55, 3) := by decide +kernel
theorem dX7_load_71 : decode cX7_load 71 = .ok (.putfield 51, 3) := by decide +kernel
theorem dX7_load_74 : decode cX7_load 74 = .ok (.aload_n 0, 1) := by decide +kernel
theorem dX7_load_75 : decode cX7_load 75 = .ok (.aload_n 3, 1) := by decide +kernel
theorem dX7_load_76 : decode cX7_load 76 = .ok (.putfield 55, 3) := by decide +kernel
theorem dX7_load_79 : decode cX7_load 79 = .ok (.aload_n 0, 1) := by decide +kernel
theorem dX7_load_80 : decode cX7_load 80 = .ok (.getfield 37, 3) := by decide +kernel
theorem dX7_load_83 : decode cX7_load 83 = .ok (.iconst 0, 1) := by decide +kernel
theorem dX7_load_84 : decode cX7_load 84 = .ok (.putfield 76, 3) := by decide +kernel
theorem dX7_load_87 : decode cX7_load 87 = .ok (.aload_n 0, 1) := by decide +kernel
theorem dX7_load_88 : decode cX7_load 88 = .ok (.getfield 44, 3) := by decide +kernel
theorem dX7_load_91 : decode cX7_load 91 = .ok (.iconst 0, 1) := by decide +kernel
theorem dX7_load_92 : decode cX7_load 92 = .ok (.putfield 80, 3) := by decide +kernel
theorem dX7_load_95 : decode cX7_load 95 = .ok (.iload_n 2, 1) := by decide +kernel
theorem dX7_load_96 : decode cX7_load 96 = .ok (.ireturn, 1) := by decide +kernel
def f_X7_load (p1 : Int32) (μ : gM) : Option (Int32 × gM) :=
  if (p1 < 0) then some ((-2 : Int32), μ) else if (p1 ≤ (gi μ 1 1)) then Option.bind (f_X4_readText p1 μ) (fun q3 => if (0 ≤ q3.1) then some (q3.1, (si (si (msw (si (si q3.2 1 1 (0 : Int32)) 0 7 (-1 : Int32))) 20 2 (0 : Int32)) 28 0 (0 : Int32))) else some (q3.1, (si (si q3.2 1 1 (0 : Int32)) 0 7 (gi (si q3.2 1 1 (0 : Int32)) 1 3)))) else some ((-2 : Int32), μ)
set_option maxHeartbeats 4000000 in
set_option maxRecDepth 100000 in
theorem c_X7_load {l : Launch} {D : va_G} {cy : Nat → ClassId} {ad : Nat → Nat} {base : gBs} {p1 : Int32} {μ : gM} {RES : Int32 × gM} (h : f_X7_load p1 μ = some RES) : Met l yX7_load [.code yX7_load cX7_load 4 (some .int)] ({ frames := 6, cells := 0, slots := 0, locals := 133 } : Room) (va_Pc [.ref (ad 0), .int p1] (gB l gFull D cy ad base μ)) (gQL (some (.int RES.1)) D cy ad base RES.2) 0 0 (gA base) := by
  refine Met.ofW (cc := cX7_load) (maxL := 4) (ret := (some .int)) (by decide) rfl ?_
  intro p e s m args below meth c s₁ B hml0 hv
  obtain ⟨rfl, E, hM⟩ := hv
  have F : gF p s m meth c cX7_load RX7 4 (some .int) := gF_of B hml0
  obtain ⟨hx, hb, hml, hown, hlocks, hr⟩ := id F
  have hS : va_S (gA base) s.heap s.heap [] := va_S.rf
  have hl := lv_entry ([.ref (ad 0), .int p1]) (n := 4) (Nat.le_of_ble_eq_true rfl)
  rw [lg_entry_eq]
  generalize (lg_sl ([.ref (ad 0), .int p1]) ++ List.replicate (4 - (lg_sl ([.ref (ad 0), .int p1])).length) Slot.unset).toArray = ls at hl ⊢
  have hl : lv_has ls 4 [(0, .ref (ad 0)), (1, .int p1)] := hl
  unfold f_X7_load at h
  refine lv_iload_n hx hb dX7_load_0 rfl (lv_at hl 1 rfl) ?_
  refine lv_if_lt (tgt := 15) hx hb dX7_load_1 (by decide) (fun c1 => ?_) (fun c1 => ?_)
  · replace h := gif_t c1 h
    refine lv_bipush (v := (-2 : Int32)) hx hb dX7_load_15 (by decide) ?_
    obtain rfl := Option.some.inj h
    exact g_iretL (fun _ _ => rfl) hx hb hr hlocks hM hS dX7_load_17
  · replace h := gif_f c1 h
    refine lv_iload_n hx hb dX7_load_4 rfl (lv_at hl 1 rfl) ?_
    refine lv_aload_n hx hb dX7_load_5 rfl (lv_at hl 0 rfl) ?_
    refine gg_0_0 hx hb hown E hM hk_0 kw_486 dX7_load_6 ?_
    refine gg_1_1 hx hb hown E hM hk_1 kw_175 dX7_load_9 ?_
    refine lv_icmp_le (tgt := 18) hx hb dX7_load_12 (by decide) (fun c2 => ?_) (fun c2 => ?_)
    · replace h := gif_t c2 h
      refine lv_aload_n hx hb dX7_load_18 rfl (lv_at hl 0 rfl) ?_
      refine gg_0_0 hx hb hown E hM hk_0 kw_486 dX7_load_19 ?_
      refine lv_aload_n hx hb dX7_load_22 rfl (lv_at hl 0 rfl) ?_
      refine gg_0_6 hx hb hown E hM hk_0 kw_492 dX7_load_23 ?_
      refine lv_iload_n hx hb dX7_load_26 rfl (lv_at hl 1 rfl) ?_
      obtain ⟨q3, hq3, h⟩ := gbind_e h
      refine g_callV (As := [.ref (ad 47), .int p1]) (rest := []) hx hb (hml.trans hl.1.symm) hown E hM hS hy_X4_readText kw_914 (c_X4_readText hq3) hk_1 dd_1 rfl rfl rfl (Nat.le_of_ble_eq_true rfl) ⟨Nat.le_of_ble_eq_true rfl, Nat.le_of_ble_eq_true rfl⟩ ⟨Nat.le_of_ble_eq_true rfl, Nat.le_of_ble_eq_true rfl⟩ dX7_load_27 (fun H locs hM hS => ?_)
      refine lv_istore_n (lv' := [(2, .int q3.1), (0, .ref (ad 0)), (1, .int p1)]) hx hb dX7_load_30 rfl hl (by decide) rfl (fun ls hl => ?_)
      refine lv_aload_n hx hb dX7_load_31 rfl (lv_at hl 1 rfl) ?_
      refine gg_0_0 hx hb hown E hM hk_0 kw_486 dX7_load_32 ?_
      refine lv_iconst (v := (0 : Int32)) hx hb dX7_load_35 (by decide) ?_
      refine gp_1_1 hx hb hown E hM hS hk_1 kw_175 dX7_load_36 (fun H locs hM hS => ?_)
      refine lv_iload_n hx hb dX7_load_39 rfl (lv_at hl 0 rfl) ?_
      refine lv_if_ge (tgt := 56) hx hb dX7_load_40 (by decide) (fun c4 => ?_) (fun c4 => ?_)
      · replace h := gif_t c4 h
        refine lv_aload_n hx hb dX7_load_56 rfl (lv_at hl 1 rfl) ?_
        refine lv_iconst (v := (-1 : Int32)) hx hb dX7_load_57 (by decide) ?_
        refine gp_0_7 hx hb hown E hM hS hk_0 kw_493 dX7_load_58 (fun H locs hM hS => ?_)
        refine lv_aload_n hx hb dX7_load_61 rfl (lv_at hl 1 rfl) ?_
        refine gg_0_5 hx hb hown E hM hk_0 kw_491 dX7_load_62 ?_
        refine lv_astore_n (lv' := [(3, .ref (ad 34)), (2, .int q3.1), (0, .ref (ad 0)), (1, .int p1)]) hx hb dX7_load_65 rfl hl (by decide) rfl (fun ls hl => ?_)
        refine lv_aload_n hx hb dX7_load_66 rfl (lv_at hl 2 rfl) ?_
        refine lv_aload_n hx hb dX7_load_67 rfl (lv_at hl 2 rfl) ?_
        refine gg_0_6 hx hb hown E hM hk_0 kw_492 dX7_load_68 ?_
        refine g_swap hx hb hown E hM hS kw_491 kw_492 (lv_at hl 2 rfl) (lv_at hl 0 rfl) dX7_load_71 dX7_load_74 dX7_load_75 dX7_load_76 (fun ad2 H locs had hM hS => ?_)
        replace E := E.sw had
        have hl : lv_has ls 4 [(2, .int q3.1), (0, .ref (ad2 0)), (1, .int p1)] := by rw [had 0 (by omega)]; exact (lv_sub hl [1, 2, 3] rfl)
        refine lv_aload_n hx hb dX7_load_79 rfl (lv_at hl 1 rfl) ?_
        refine gg_0_3 hx hb hown E hM hk_0 kw_489 dX7_load_80 ?_
        refine lv_iconst (v := (0 : Int32)) hx hb dX7_load_83 (by decide) ?_
        refine gp_20_2 hx hb hown E hM hS hk_20 (Or.inl rfl) kw_323 dX7_load_84 (fun H locs hM hS => ?_)
        refine lv_aload_n hx hb dX7_load_87 rfl (lv_at hl 1 rfl) ?_
        refine gg_0_4 hx hb hown E hM hk_0 kw_490 dX7_load_88 ?_
        refine lv_iconst (v := (0 : Int32)) hx hb dX7_load_91 (by decide) ?_
        refine gp_28_0 hx hb hown E hM hS hk_28 kw_354 dX7_load_92 (fun H locs hM hS => ?_)
        refine lv_iload_n hx hb dX7_load_95 rfl (lv_at hl 0 rfl) ?_
        obtain rfl := Option.some.inj h
        exact g_iretL had hx hb hr hlocks hM hS dX7_load_96
      · replace h := gif_f c4 h
        refine lv_aload_n hx hb dX7_load_43 rfl (lv_at hl 1 rfl) ?_
        refine lv_aload_n hx hb dX7_load_44 rfl (lv_at hl 1 rfl) ?_
        refine gg_0_0 hx hb hown E hM hk_0 kw_486 dX7_load_45 ?_
        refine gg_1_3 hx hb hown E hM hk_1 kw_178 dX7_load_48 ?_
        refine gp_0_7 hx hb hown E hM hS hk_0 kw_493 dX7_load_51 (fun H locs hM hS => ?_)
        refine lv_iload_n hx hb dX7_load_54 rfl (lv_at hl 0 rfl) ?_
        obtain rfl := Option.some.inj h
        exact g_iretL (fun _ _ => rfl) hx hb hr hlocks hM hS dX7_load_55
    · replace h := gif_f c2 h
      refine lv_bipush (v := (-2 : Int32)) hx hb dX7_load_15 (by decide) ?_
      obtain rfl := Option.some.inj h
      exact g_iretL (fun _ _ => rfl) hx hb hr hlocks hM hS dX7_load_17

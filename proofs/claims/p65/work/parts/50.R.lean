theorem xy_Jx4a65c_get_915e3 : gYV yJx4a65c_get_915e3 cJx4a65c_get_915e3 2 (some (.object "java/lang/Object")) 1 := ⟨kw_873, kw_61, kw_871, kw_872, ⟨by decide +kernel, by decide +kernel⟩, by decide +kernel⟩
theorem xy_Jx4a65c_iterator_32c93 : gYV yJx4a65c_iterator_32c93 cJx4a65c_iterator_32c93 1 (some (.object "java/util/Iterator")) 0 := ⟨kw_1153, kw_61, kw_1151, kw_1152, ⟨by decide +kernel, by decide +kernel⟩, by decide +kernel⟩
theorem dX8_rise_0 : decode cX8_rise 0 = .ok (.iconst 0, 1) := by decide +kernel
theorem dX8_rise_1 : decode cX8_rise 1 = .ok (.istore_n 2, 1) := by decide +kernel
theorem dX8_rise_2 : decode cX8_rise 2 = .ok (.aload_n 0, 1) := by decide +kernel
theorem dX8_rise_3 : decode cX8_rise 3 = .ok (.getfield 28, 3) := by decide +kernel
theorem dX8_rise_6 : decode cX8_rise 6 = .ok (.iload_n 1, 1) := by decide +kernel
theorem dX8_rise_7 : decode cX8_rise 7 = .ok (.invokevirtual 129, 3) := by decide +kernel
theorem dX8_rise_10 : decode cX8_rise 10 = .ok (.checkcast 25, 3) := by decide +kernel
theorem dX8_rise_13 : decode cX8_rise 13 = .ok (.invokevirtual 141, 3) := by decide +kernel
theorem dX8_rise_16 : decode cX8_rise 16 = .ok (.astore_n 3, 1) := by decide +kernel
theorem dX8_rise_17 : decode cX8_rise 17 = .ok (.aload_n 3, 1) := by decide +kernel
theorem dX8_rise_18 : decode cX8_rise 18 = .ok (.invokeinterface 145 1, 5) := by decide +kernel
theorem dX8_rise_23 : decode cX8_rise 23 = .ok (.ifCond .eq 54, 3) := by decide +kernel
theorem dX8_rise_26 : decode cX8_rise 26 = .ok (.aload_n 3, 1) := by decide +kernel
theorem dX8_rise_27 : decode cX8_rise 27 = .ok (.invokeinterface 151 1, 5) := by decide +kernel
theorem dX8_rise_32 : decode cX8_rise 32 = .ok (.checkcast 155, 3) := by decide +kernel
theorem dX8_rise_35 : decode cX8_rise 35 = .ok (.astore 4, 2) := by decide +kernel
theorem dX8_rise_37 : decode cX8_rise 37 = .ok (.iload_n 2, 1) := by decide +kernel
theorem dX8_rise_38 : decode cX8_rise 38 = .ok (.bipush 100, 2) := by decide +kernel
theorem dX8_rise_40 : decode cX8_rise 40 = .ok (.aload 4, 2) := by decide +kernel
theorem dX8_rise_42 : decode cX8_rise 42 = .ok (.iconst 0, 1) := by decide +kernel
theorem dX8_rise_43 : decode cX8_rise 43 = .ok (.iaload, 1) := by decide +kernel
theorem dX8_rise_44 : decode cX8_rise 44 = .ok (.aload 4, 2) := by decide +kernel
theorem dX8_rise_46 : decode cX8_rise 46 = .ok (.iconst 1, 1) := by decide +kernel
theorem dX8_rise_47 : decode cX8_rise 47 = .ok (.iaload, 1) := by decide +kernel
theorem dX8_rise_48 : decode cX8_rise 48 = .ok (.isub, 1) := by decide +kernel
theorem dX8_rise_49 : decode cX8_rise 49 = .ok (.imul, 1) := by decide +kernel
theorem dX8_rise_50 : decode cX8_rise 50 = .ok (.aload_n 0, 1) := by decide +kernel
theorem dX8_rise_51 : decode cX8_rise 51 = .ok (.getfield 18, 3) := by decide +kernel
theorem dX8_rise_54 : decode cX8_rise 54 = .ok (.aload_n 0, 1) := by decide +kernel
theorem dX8_rise_55 : decode cX8_rise 55 = .ok (.getfield 55, 3) := by decide +kernel
theorem dX8_rise_58 : decode cX8_rise 58 = .ok (.iload_n 1, 1) := by decide +kernel
theorem dX8_rise_59 : decode cX8_rise 59 = .ok (.iaload, 1) := by decide +kernel
theorem dX8_rise_60 : decode cX8_rise 60 = .ok (.iaload, 1) := by decide +kernel
theorem dX8_rise_61 : decode cX8_rise 61 = .ok (.aload 4, 2) := by decide +kernel
theorem dX8_rise_63 : decode cX8_rise 63 = .ok (.iconst 2, 1) := by decide +kernel
theorem dX8_rise_64 : decode cX8_rise 64 = .ok (.iaload, 1) := by decide +kernel
theorem dX8_rise_65 : decode cX8_rise 65 = .ok (.aload 4, 2) := by decide +kernel
theorem dX8_rise_67 : decode cX8_rise 67 = .ok (.iconst 3, 1) := by decide +kernel
theorem dX8_rise_68 : decode cX8_rise 68 = .ok (.iaload, 1) := by decide +kernel
theorem dX8_rise_69 : decode cX8_rise 69 = .ok (.isub, 1) := by decide +kernel
theorem dX8_rise_70 : decode cX8_rise 70 = .ok (.imul, 1) := by decide +kernel
theorem dX8_rise_71 : decode cX8_rise 71 = .ok (.isub, 1) := by decide +kernel
theorem dX8_rise_72 : decode cX8_rise 72 = .ok (.iadd, 1) := by decide +kernel
theorem dX8_rise_73 : decode cX8_rise 73 = .ok (.istore_n 2, 1) := by decide +kernel
theorem dX8_rise_74 : decode cX8_rise 74 = .ok (.goto (-57), 3) := by decide +kernel
theorem dX8_rise_77 : decode cX8_rise 77 = .ok (.iload_n 2, 1) := by decide +kernel
theorem dX8_rise_78 : decode cX8_rise 78 = .ok (.ireturn, 1) := by decide +kernel
def b_L_rise_17 (x1 : Int32) (x2 : Int32) (z0 : Nat) (z1 : Nat) (z2 : Int32) (ν μ : gM) : Option ((Int32 × Nat × Nat × Int32) ⊕ (Int32)) :=
  gchk (z0 < lLn ν ∧ z1 ≤ lSz ν z0) (if ((b2i (decide (z1 < lSz ν z0))) = 0) then some (.inr x2) else gchk (z0 < lLn ν ∧ z1 < lSz ν z0) (gchk (gIn x1 (lLn ν)) (gchk (gIn (gi ν 4 x1.toNatClampNeg) 2) (some (.inl ((x2 + (((100 : Int32) * ((gi ν (100 + 8 * z0 + z1) 0) - (gi ν (100 + 8 * z0 + z1) 1))) - ((gi ν 1 (gi ν 4 x1.toNatClampNeg).toNatClampNeg) * ((gi ν (100 + 8 * z0 + z1) 2) - (gi ν (100 + 8 * z0 + z1) 3))))), z0, (z1 + 1), (nI z1)))))))
set_option maxHeartbeats 4000000 in
set_option maxRecDepth 100000 in
theorem wb_L_rise_17 {p : Program} {l : Launch} {e : Env} {s : State} {m : MethodId} {args : Array Value} {below : List Frame} {meth : Method} {c : Code} {D : va_G} {cy : Nat → ClassId} {ad : Nat → Nat} {b : Nat} {la : Nat → Nat → Nat} {ν : gM} {P P0 : va_W} {x1 : Int32} {x2 : Int32} {z0 : Nat} {z1 : Nat} {z2 : Int32} {μ : gM} {a2 : Nat} {o : (Int32 × Nat × Nat × Int32) ⊕ (Int32)} {RES : Int32} {cells slots C0 S0 CM SM : Nat} (h : b_L_rise_17 x1 x2 z0 z1 z2 ν μ = some o) (F : gF p s m meth c cX8_rise RX8 5 (some .int)) (E : hE l D cy ad b s) (hY : lY cy ad la ν P) (hPd : ∀ (μ : gM) (H : Heap), hW D cy ad b μ P [] H → hW D cy ad b μ P0 [] H) (hc : cells + 0 ≤ C0) (hs : slots + 0 ≤ S0) (hcm : C0 ≤ CM) (hsm : S0 ≤ SM) (hcr : CM ≤ 1) (hsr : SM ≤ 4) (kc : ∀ (t : Int32 × Nat × Nat × Int32) {H : Heap} {locs : List Loc} {ls : Array Slot}, o = .inl t → hW D cy ad b μ P [(a2, lIt t.2.2.1 t.2.2.2 (gi ν (40 + t.2.1) 0) (la 40 t.2.1))] H → va_S (hA b) s.heap H locs → lv_has ls 5 [(0, .ref (la 0 0)), (1, .int x1), (2, .int t.1), (3, .ref a2)] → W p l e ({ frames := 3, cells := 1, slots := 4, locals := 71 } : Room) s m args below meth c H locs C0 S0 (MQ below (hQ b (fun rv H => rv = some (.int RES) ∧ hW D cy ad b μ P0 [] H)) args s 1 4 (hA b)) (F0 m 17 ls [])) (kx : ∀ (t : Int32) {H : Heap} {locs : List Loc} {ls : Array Slot}, o = .inr t → hW D cy ad b μ P [] H → va_S (hA b) s.heap H locs → lv_has ls 5 [(2, .int t)] → W p l e ({ frames := 3, cells := 1, slots := 4, locals := 71 } : Room) s m args below meth c H locs CM SM (MQ below (hQ b (fun rv H => rv = some (.int RES) ∧ hW D cy ad b μ P0 [] H)) args s 1 4 (hA b)) (F0 m 77 ls []))  {H : Heap} {locs : List Loc} {ls : Array Slot} (hM : hW D cy ad b μ P [(a2, lIt z1 z2 (gi ν (40 + z0) 0) (la 40 z0))] H) (hS : va_S (hA b) s.heap H locs) (hl : lv_has ls 5 [(0, .ref (la 0 0)), (1, .int x1), (2, .int x2), (3, .ref a2)]) : W p l e ({ frames := 3, cells := 1, slots := 4, locals := 71 } : Room) s m args below meth c H locs cells slots (MQ below (hQ b (fun rv H => rv = some (.int RES) ∧ hW D cy ad b μ P0 [] H)) args s 1 4 (hA b)) (F0 m 17 ls []) := by
  obtain ⟨hx, hb, hml, hown, hlocks, hr⟩ := id F
  unfold b_L_rise_17 at h
  refine lv_aload_n hx hb dX8_rise_17 rfl (lv_at hl 3 rfl) ?_
  obtain ⟨c3, h⟩ := gchk_e h
  refine h_callF (As := []) (rest := []) hx hb (hml.trans hl.1.symm) hown E hM hS xf_has kw_1174 (cl_has hY c3.1 c3.2) (ht_m List.mem_cons_self) gC_Jx35411.1 rfl rfl (Nat.le_of_ble_eq_true rfl) ⟨(Nat.le_of_ble_eq_true rfl), (Nat.le_of_ble_eq_true rfl)⟩ ⟨(show _ ≤ 1 by omega), (show _ ≤ 4 by omega)⟩ dX8_rise_18 (fun rv H locs hZ hS => ?_)
  obtain ⟨rfl, hM⟩ := hZ
  refine lv_if_eq (tgt := 77) hx hb dX8_rise_23 (by decide) (fun c4 => ?_) (fun c4 => ?_)
  · replace h := gif_t c4 h
    replace hM := hW.drop hM
    refine W.widen (k := CM) (n := SM) (by omega) (by omega) ?_
    exact kx _ (Option.some.inj h).symm hM hS (lv_sub hl [2] rfl)
  · replace h := gif_f c4 h
    refine lv_aload_n hx hb dX8_rise_26 rfl (lv_at hl 3 rfl) ?_
    obtain ⟨c5, h⟩ := gchk_e h
    refine h_callF (As := []) (rest := []) hx hb (hml.trans hl.1.symm) hown E hM hS xf_next kw_1184 (cl_next hY c5.1 c5.2) (ht_m List.mem_cons_self) gC_Jx35411.1 rfl rfl (Nat.le_of_ble_eq_true rfl) ⟨(Nat.le_of_ble_eq_true rfl), (Nat.le_of_ble_eq_true rfl)⟩ ⟨(show _ ≤ 1 by omega), (show _ ≤ 4 by omega)⟩ dX8_rise_27 (fun rv H locs hZ hS => ?_)
    obtain ⟨rfl, hM⟩ := hZ
    refine h_castI hx hb hown E hM (hp_m (hY.c3 c5.1 c5.2)) kw_1196 dX8_rise_32 ?_
    refine lv_astore (lv' := [(4, .ref (la (100 + z0) z1)), (0, .ref (la 0 0)), (1, .int x1), (2, .int x2), (3, .ref a2)]) hx hb dX8_rise_35 hl (by decide) rfl (fun ls hl => ?_)
    refine lv_iload_n hx hb dX8_rise_37 rfl (lv_at hl 3 rfl) ?_
    refine lv_bipush (v := (100 : Int32)) hx hb dX8_rise_38 (by decide) ?_
    refine lv_aload hx hb dX8_rise_40 (lv_at hl 0 rfl) ?_
    refine lv_iconst (v := (0 : Int32)) hx hb dX8_rise_42 (by decide) ?_
    refine l_iald hx hb E hM (hp_m (hY.c3 c5.1 c5.2)) (⟨by decide, by decide⟩ : gIn (0 : Int32) 4) (v := (gi ν (100 + 8 * z0 + z1) 0)) (congrArg (ν.1 (100 + 8 * z0 + z1)) (by decide : (0 : Int32).toNatClampNeg = 0)) dX8_rise_43 ?_
    refine lv_aload hx hb dX8_rise_44 (lv_at hl 0 rfl) ?_
    refine lv_iconst (v := (1 : Int32)) hx hb dX8_rise_46 (by decide) ?_
    refine l_iald hx hb E hM (hp_m (hY.c3 c5.1 c5.2)) (⟨by decide, by decide⟩ : gIn (1 : Int32) 4) (v := (gi ν (100 + 8 * z0 + z1) 1)) (congrArg (ν.1 (100 + 8 * z0 + z1)) (by decide : (1 : Int32).toNatClampNeg = 1)) dX8_rise_47 ?_
    refine lv_isub hx hb dX8_rise_48 ?_
    refine lv_imul hx hb dX8_rise_49 ?_
    refine lv_aload_n hx hb dX8_rise_50 rfl (lv_at hl 1 rfl) ?_
    refine h_get hx hb hown E hM (hp_m (hY.c1 0 rfl)) gC_X8 3 (by decide) (v := .ref (la 1 0)) rfl kw_1027 dX8_rise_51 ?_
    refine lv_aload_n hx hb dX8_rise_54 rfl (lv_at hl 1 rfl) ?_
    refine h_get hx hb hown E hM (hp_m (hY.c1 0 rfl)) gC_X8 6 (by decide) (v := .ref (la 4 0)) rfl kw_1030 dX8_rise_55 ?_
    refine lv_iload_n hx hb dX8_rise_58 rfl (lv_at hl 2 rfl) ?_
    obtain ⟨c8, h⟩ := gchk_e h
    refine l_iald hx hb E hM (hp_m (hY.c1 4 rfl)) c8 (v := (gi ν 4 x1.toNatClampNeg)) rfl dX8_rise_59 ?_
    obtain ⟨c9, h⟩ := gchk_e h
    refine l_iald hx hb E hM (hp_m (hY.c1 1 rfl)) c9 (v := (gi ν 1 (gi ν 4 x1.toNatClampNeg).toNatClampNeg)) rfl dX8_rise_60 ?_
    refine lv_aload hx hb dX8_rise_61 (lv_at hl 0 rfl) ?_
    refine lv_iconst (v := (2 : Int32)) hx hb dX8_rise_63 (by decide) ?_
    refine l_iald hx hb E hM (hp_m (hY.c3 c5.1 c5.2)) (⟨by decide, by decide⟩ : gIn (2 : Int32) 4) (v := (gi ν (100 + 8 * z0 + z1) 2)) (congrArg (ν.1 (100 + 8 * z0 + z1)) (by decide : (2 : Int32).toNatClampNeg = 2)) dX8_rise_64 ?_
    refine lv_aload hx hb dX8_rise_65 (lv_at hl 0 rfl) ?_
    refine lv_iconst (v := (3 : Int32)) hx hb dX8_rise_67 (by decide) ?_
    refine l_iald hx hb E hM (hp_m (hY.c3 c5.1 c5.2)) (⟨by decide, by decide⟩ : gIn (3 : Int32) 4) (v := (gi ν (100 + 8 * z0 + z1) 3)) (congrArg (ν.1 (100 + 8 * z0 + z1)) (by decide : (3 : Int32).toNatClampNeg = 3)) dX8_rise_68 ?_
    refine lv_isub hx hb dX8_rise_69 ?_
    refine lv_imul hx hb dX8_rise_70 ?_
    refine lv_isub hx hb dX8_rise_71 ?_
    refine lv_iadd hx hb dX8_rise_72 ?_
    refine lv_istore_n (lv' := [(2, .int (x2 + (((100 : Int32) * ((gi ν (100 + 8 * z0 + z1) 0) - (gi ν (100 + 8 * z0 + z1) 1))) - ((gi ν 1 (gi ν 4 x1.toNatClampNeg).toNatClampNeg) * ((gi ν (100 + 8 * z0 + z1) 2) - (gi ν (100 + 8 * z0 + z1) 3)))))), (4, .ref (la (100 + z0) z1)), (0, .ref (la 0 0)), (1, .int x1), (3, .ref a2)]) hx hb dX8_rise_73 rfl hl (by decide) rfl (fun ls hl => ?_)
    refine lv_goto (tgt := 17) hx hb dX8_rise_74 (by decide) ?_
    refine W.widen (k := C0) (n := S0) (by omega) (by omega) ?_
    exact kc _ (Option.some.inj h).symm hM hS (lv_sub hl [2, 3, 0, 4] rfl)
set_option maxHeartbeats 4000000 in
theorem wl_L_rise_17 {p : Program} {l : Launch} {e : Env} {s : State} {m : MethodId} {args : Array Value} {below : List Frame} {meth : Method} {c : Code} {D : va_G} {cy : Nat → ClassId} {ad : Nat → Nat} {b : Nat} {la : Nat → Nat → Nat} {ν : gM} {P P0 : va_W} {x1 : Int32}  {μ : gM} {a2 : Nat} {r : Int32} {RES : Int32} {CM SM : Nat} (F : gF p s m meth c cX8_rise RX8 5 (some .int)) (E : hE l D cy ad b s) (hY : lY cy ad la ν P) (hPd : ∀ (μ : gM) (H : Heap), hW D cy ad b μ P [] H → hW D cy ad b μ P0 [] H) (hcr : CM ≤ 1) (hsr : SM ≤ 4) (kx : ∀ (t : Int32) {H : Heap} {locs : List Loc} {ls : Array Slot}, r = t → hW D cy ad b μ P [] H → va_S (hA b) s.heap H locs → lv_has ls 5 [(2, .int t)] → W p l e ({ frames := 3, cells := 1, slots := 4, locals := 71 } : Room) s m args below meth c H locs CM SM (MQ below (hQ b (fun rv H => rv = some (.int RES) ∧ hW D cy ad b μ P0 [] H)) args s 1 4 (hA b)) (F0 m 77 ls []))  : ∀ (n : Nat) (x2 : Int32) (z0 : Nat) (z1 : Nat) (z2 : Int32) {cells slots : Nat}, cells + n * 0 ≤ CM → slots + n * 0 ≤ SM → gloop (fun t => b_L_rise_17 x1 t.1 t.2.1 t.2.2.1 t.2.2.2 ν μ) n (x2, z0, z1, z2) = some r → ∀ {H : Heap} {locs : List Loc} {ls : Array Slot}, hW D cy ad b μ P [(a2, lIt z1 z2 (gi ν (40 + z0) 0) (la 40 z0))] H → va_S (hA b) s.heap H locs → lv_has ls 5 [(0, .ref (la 0 0)), (1, .int x1), (2, .int x2), (3, .ref a2)] → W p l e ({ frames := 3, cells := 1, slots := 4, locals := 71 } : Room) s m args below meth c H locs cells slots (MQ below (hQ b (fun rv H => rv = some (.int RES) ∧ hW D cy ad b μ P0 [] H)) args s 1 4 (hA b)) (F0 m 17 ls []) := by
  intro n
  induction n with
  | zero =>
    intro x2 z0 z1 z2 cells slots hc hs h
    exact (gloop_0 h).elim
  | succ n ih =>
    intro x2 z0 z1 z2 cells slots hc hs h H locs ls hM hS hl
    obtain ⟨o, h0, hcc, hq⟩ := gloop_s h
    have h1 : b_L_rise_17 x1 x2 z0 z1 z2 ν μ = some o := h0
    exact wb_L_rise_17 (C0 := cells + 0) (S0 := slots + 0) (CM := CM) (SM := SM) h1 F E hY hPd  (by omega) (by omega) (by omega) (by omega) hcr hsr (fun t H locs ls ho hM hS hl => ih t.1 t.2.1 t.2.2.1 t.2.2.2 (by omega) (by omega) (hcc t ho) hM hS hl) (fun t H locs ls ho hM hS hl => kx t (hq _ ho).symm hM hS hl) hM hS hl
def f_L_rise (p1 : Int32) (ν μ : gM) : Option (Int32) :=
  gchk (gIn p1 (lLn ν)) (Option.bind (gloop (fun t => b_L_rise_17 p1 t.1 t.2.1 t.2.2.1 t.2.2.2 ν μ) 9 ((0 : Int32), p1.toNatClampNeg, 0, (-1))) (fun q12 => some q12))
set_option maxHeartbeats 4000000 in
set_option maxRecDepth 100000 in
theorem c_L_rise {l : Launch} {D : va_G} {cy : Nat → ClassId} {ad : Nat → Nat} {b : Nat} {la : Nat → Nat → Nat} {μ ν : gM} {P : va_W} {p1 : Int32} {RES : Int32} (hY : lY cy ad la ν P) (h : f_L_rise p1 ν μ = some RES) : Met l yX8_rise [.code yX8_rise cX8_rise 5 (some .int)] ({ frames := 3, cells := 1, slots := 4, locals := 71 } : Room) (va_Pc [.ref (la 0 0), .int p1] (hB l D cy ad b μ P [])) (hQ b (fun rv H => rv = some (.int RES) ∧ hW D cy ad b μ P [] H)) 1 4 (hA b) := by
  refine Met.ofW (cc := cX8_rise) (maxL := 5) (ret := (some .int)) (by decide +kernel) rfl ?_
  intro p e s m args below meth c s₁ B hml0 hv
  obtain ⟨rfl, E, hM⟩ := hv
  have F : gF p s m meth c cX8_rise RX8 5 (some .int) := gF_of B hml0
  obtain ⟨hx, hb, hml, hown, hlocks, hr⟩ := id F
  have hS : va_S (hA b) s.heap s.heap [] := va_S.rf
  have hl := lv_entry ([.ref (la 0 0), .int p1]) (n := 5) (Nat.le_of_ble_eq_true rfl)
  rw [lg_entry_eq]
  generalize (lg_sl ([.ref (la 0 0), .int p1]) ++ List.replicate (5 - (lg_sl ([.ref (la 0 0), .int p1])).length) Slot.unset).toArray = ls at hl ⊢
  have hl : lv_has ls 5 [(0, .ref (la 0 0)), (1, .int p1)] := hl
  unfold f_L_rise at h
  refine lv_iconst (v := (0 : Int32)) hx hb dX8_rise_0 (by decide) ?_
  refine lv_istore_n (lv' := [(2, .int (0 : Int32)), (0, .ref (la 0 0)), (1, .int p1)]) hx hb dX8_rise_1 rfl hl (by decide) rfl (fun ls hl => ?_)
  refine lv_aload_n hx hb dX8_rise_2 rfl (lv_at hl 1 rfl) ?_
  refine h_get hx hb hown E hM (hp_m (hY.c1 0 rfl)) gC_X8 8 (by decide) (v := .ref (la 6 0)) rfl kw_1032 dX8_rise_3 ?_
  refine lv_iload_n hx hb dX8_rise_6 rfl (lv_at hl 2 rfl) ?_
  obtain ⟨c1, h⟩ := gchk_e h
  refine h_callV (As := [.int p1]) (rest := []) hx hb (hml.trans hl.1.symm) hown E hM hS xy_Jx4a65c_get_915e3 kw_870 (cl_get hY c1) (hp_m (hY.c1 6 rfl)) gC_Jx4a65c.1 rfl rfl (Nat.le_of_ble_eq_true rfl) ⟨(Nat.le_of_ble_eq_true rfl), (Nat.le_of_ble_eq_true rfl)⟩ ⟨(show _ ≤ 1 by omega), (show _ ≤ 4 by omega)⟩ dX8_rise_7 (fun rv H locs hZ hS => ?_)
  obtain ⟨rfl, hM⟩ := hZ
  refine h_castY hx hb hown E hM (hp_m (hY.c2 c1.2 1 rfl)) gC_Jx4a65c kw_511 dX8_rise_10 ?_
  refine h_callV (As := []) (rest := []) hx hb (hml.trans hl.1.symm) hown E hM hS xy_Jx4a65c_iterator_32c93 kw_1150 (cl_iter hY c1.2) (hp_m (hY.c2 c1.2 1 rfl)) gC_Jx4a65c.1 rfl rfl (Nat.le_of_ble_eq_true rfl) ⟨(Nat.le_of_ble_eq_true rfl), (Nat.le_of_ble_eq_true rfl)⟩ ⟨(show _ ≤ 1 by omega), (show _ ≤ 4 by omega)⟩ dX8_rise_13 (fun rv H locs hZ hS => ?_)
  obtain ⟨a2, rfl, hM⟩ := hZ
  refine lv_astore_n (lv' := [(3, .ref a2), (2, .int (0 : Int32)), (0, .ref (la 0 0)), (1, .int p1)]) hx hb dX8_rise_16 rfl hl (by decide) rfl (fun ls hl => ?_)
  obtain ⟨z13, h1, h⟩ := gbind_e h
  refine wl_L_rise_17 (CM := 1) (SM := 4) F E hY (fun _ _ h => h)  (by omega) (by omega) (r := z13) (fun q12 H locs ls e1 hM hS hl => ?_) 9 (0 : Int32) p1.toNatClampNeg 0 (-1) (by omega) (by omega) h1 hM hS (lv_sub hl [2, 3, 1, 0] rfl)
  replace e1 : z13 = q12 := e1
  rw [e1] at h
  refine lv_iload_n hx hb dX8_rise_77 rfl (lv_at hl 0 rfl) ?_
  obtain rfl := Option.some.inj h
  exact h_iret hx hb hr hlocks (by omega) (by omega) ⟨rfl, (fun _ _ h => h) _ _ (hW.drop hM)⟩ hS dX8_rise_78
theorem dX8_length_0 : decode cX8_length 0 = .ok (.iconst 0, 1) := by decide +kernel
theorem dX8_length_1 : decode cX8_length 1 = .ok (.istore_n 2, 1) := by decide +kernel
theorem dX8_length_2 : decode cX8_length 2 = .ok (.aload_n 0, 1) := by decide +kernel
theorem dX8_length_3 : decode cX8_length 3 = .ok (.getfield 28, 3) := by decide +kernel
theorem dX8_length_6 : decode cX8_length 6 = .ok (.iload_n 1, 1) := by decide +kernel
theorem dX8_length_7 : decode cX8_length 7 = .ok (.invokevirtual 129, 3) := by decide +kernel
theorem dX8_length_10 : decode cX8_length 10 = .ok (.checkcast 25, 3) := by decide +kernel
theorem dX8_length_13 : decode cX8_length 13 = .ok (.invokevirtual 141, 3) := by decide +kernel
theorem dX8_length_16 : decode cX8_length 16 = .ok (.astore_n 3, 1) := by decide +kernel
theorem dX8_length_17 : decode cX8_length 17 = .ok (.aload_n 3, 1) := by decide +kernel
theorem dX8_length_18 : decode cX8_length 18 = .ok (.invokeinterface 145 1, 5) := by decide +kernel
theorem dX8_length_23 : decode cX8_length 23 = .ok (.ifCond .eq 29, 3) := by decide +kernel
theorem dX8_length_26 : decode cX8_length 26 = .ok (.aload_n 3, 1) := by decide +kernel
theorem dX8_length_27 : decode cX8_length 27 = .ok (.invokeinterface 151 1, 5) := by decide +kernel
theorem dX8_length_32 : decode cX8_length 32 = .ok (.checkcast 155, 3) := by decide +kernel
theorem dX8_length_35 : decode cX8_length 35 = .ok (.astore 4, 2) := by decide +kernel
theorem dX8_length_37 : decode cX8_length 37 = .ok (.iload_n 2, 1) := by decide +kernel
theorem dX8_length_38 : decode cX8_length 38 = .ok (.aload 4, 2) := by decide +kernel
theorem dX8_length_40 : decode cX8_length 40 = .ok (.iconst 2, 1) := by decide +kernel
theorem dX8_length_41 : decode cX8_length 41 = .ok (.iaload, 1) := by decide +kernel
theorem dX8_length_42 : decode cX8_length 42 = .ok (.aload 4, 2) := by decide +kernel
theorem dX8_length_44 : decode cX8_length 44 = .ok (.iconst 3, 1) := by decide +kernel
theorem dX8_length_45 : decode cX8_length 45 = .ok (.iaload, 1) := by decide +kernel
theorem dX8_length_46 : decode cX8_length 46 = .ok (.iadd, 1) := by decide +kernel
theorem dX8_length_47 : decode cX8_length 47 = .ok (.iadd, 1) := by decide +kernel
theorem dX8_length_48 : decode cX8_length 48 = .ok (.istore_n 2, 1) := by decide +kernel
theorem dX8_length_49 : decode cX8_length 49 = .ok (.goto (-32), 3) := by decide +kernel
theorem dX8_length_52 : decode cX8_length 52 = .ok (.iload_n 2, 1) := by decide +kernel
theorem dX8_length_53 : decode cX8_length 53 = .ok (.ireturn, 1) := by decide +kernel
def b_L_length_17 (x2 : Int32) (z0 : Nat) (z1 : Nat) (z2 : Int32) (ν μ : gM) : Option ((Int32 × Nat × Nat × Int32) ⊕ (Int32)) :=
  gchk (z0 < lLn ν ∧ z1 ≤ lSz ν z0) (if ((b2i (decide (z1 < lSz ν z0))) = 0) then some (.inr x2) else gchk (z0 < lLn ν ∧ z1 < lSz ν z0) (some (.inl ((x2 + ((gi ν (100 + 8 * z0 + z1) 2) + (gi ν (100 + 8 * z0 + z1) 3))), z0, (z1 + 1), (nI z1)))))
set_option maxHeartbeats 4000000 in
set_option maxRecDepth 100000 in
theorem wb_L_length_17 {p : Program} {l : Launch} {e : Env} {s : State} {m : MethodId} {args : Array Value} {below : List Frame} {meth : Method} {c : Code} {D : va_G} {cy : Nat → ClassId} {ad : Nat → Nat} {b : Nat} {la : Nat → Nat → Nat} {ν : gM} {P P0 : va_W} {x2 : Int32} {z0 : Nat} {z1 : Nat} {z2 : Int32} {μ : gM} {a2 : Nat} {o : (Int32 × Nat × Nat × Int32) ⊕ (Int32)} {RES : Int32} {cells slots C0 S0 CM SM : Nat} (h : b_L_length_17 x2 z0 z1 z2 ν μ = some o) (F : gF p s m meth c cX8_length RX8 5 (some .int)) (E : hE l D cy ad b s) (hY : lY cy ad la ν P) (hPd : ∀ (μ : gM) (H : Heap), hW D cy ad b μ P [] H → hW D cy ad b μ P0 [] H) (hc : cells + 0 ≤ C0) (hs : slots + 0 ≤ S0) (hcm : C0 ≤ CM) (hsm : S0 ≤ SM) (hcr : CM ≤ 1) (hsr : SM ≤ 4) (kc : ∀ (t : Int32 × Nat × Nat × Int32) {H : Heap} {locs : List Loc} {ls : Array Slot}, o = .inl t → hW D cy ad b μ P [(a2, lIt t.2.2.1 t.2.2.2 (gi ν (40 + t.2.1) 0) (la 40 t.2.1))] H → va_S (hA b) s.heap H locs → lv_has ls 5 [(2, .int t.1), (3, .ref a2)] → W p l e ({ frames := 3, cells := 1, slots := 4, locals := 71 } : Room) s m args below meth c H locs C0 S0 (MQ below (hQ b (fun rv H => rv = some (.int RES) ∧ hW D cy ad b μ P0 [] H)) args s 1 4 (hA b)) (F0 m 17 ls [])) (kx : ∀ (t : Int32) {H : Heap} {locs : List Loc} {ls : Array Slot}, o = .inr t → hW D cy ad b μ P [] H → va_S (hA b) s.heap H locs → lv_has ls 5 [(2, .int t)] → W p l e ({ frames := 3, cells := 1, slots := 4, locals := 71 } : Room) s m args below meth c H locs CM SM (MQ below (hQ b (fun rv H => rv = some (.int RES) ∧ hW D cy ad b μ P0 [] H)) args s 1 4 (hA b)) (F0 m 52 ls []))  {H : Heap} {locs : List Loc} {ls : Array Slot} (hM : hW D cy ad b μ P [(a2, lIt z1 z2 (gi ν (40 + z0) 0) (la 40 z0))] H) (hS : va_S (hA b) s.heap H locs) (hl : lv_has ls 5 [(2, .int x2), (3, .ref a2)]) : W p l e ({ frames := 3, cells := 1, slots := 4, locals := 71 } : Room) s m args below meth c H locs cells slots (MQ below (hQ b (fun rv H => rv = some (.int RES) ∧ hW D cy ad b μ P0 [] H)) args s 1 4 (hA b)) (F0 m 17 ls []) := by
  obtain ⟨hx, hb, hml, hown, hlocks, hr⟩ := id F
  unfold b_L_length_17 at h
  refine lv_aload_n hx hb dX8_length_17 rfl (lv_at hl 1 rfl) ?_
  obtain ⟨c3, h⟩ := gchk_e h
  refine h_callF (As := []) (rest := []) hx hb (hml.trans hl.1.symm) hown E hM hS xf_has kw_1174 (cl_has hY c3.1 c3.2) (ht_m List.mem_cons_self) gC_Jx35411.1 rfl rfl (Nat.le_of_ble_eq_true rfl) ⟨(Nat.le_of_ble_eq_true rfl), (Nat.le_of_ble_eq_true rfl)⟩ ⟨(show _ ≤ 1 by omega), (show _ ≤ 4 by omega)⟩ dX8_length_18 (fun rv H locs hZ hS => ?_)
  obtain ⟨rfl, hM⟩ := hZ
  refine lv_if_eq (tgt := 52) hx hb dX8_length_23 (by decide) (fun c4 => ?_) (fun c4 => ?_)
  · replace h := gif_t c4 h
    replace hM := hW.drop hM
    refine W.widen (k := CM) (n := SM) (by omega) (by omega) ?_
    exact kx _ (Option.some.inj h).symm hM hS (lv_sub hl [0] rfl)
  · replace h := gif_f c4 h
    refine lv_aload_n hx hb dX8_length_26 rfl (lv_at hl 1 rfl) ?_
    obtain ⟨c5, h⟩ := gchk_e h
    refine h_callF (As := []) (rest := []) hx hb (hml.trans hl.1.symm) hown E hM hS xf_next kw_1184 (cl_next hY c5.1 c5.2) (ht_m List.mem_cons_self) gC_Jx35411.1 rfl rfl (Nat.le_of_ble_eq_true rfl) ⟨(Nat.le_of_ble_eq_true rfl), (Nat.le_of_ble_eq_true rfl)⟩ ⟨(show _ ≤ 1 by omega), (show _ ≤ 4 by omega)⟩ dX8_length_27 (fun rv H locs hZ hS => ?_)
    obtain ⟨rfl, hM⟩ := hZ
    refine h_castI hx hb hown E hM (hp_m (hY.c3 c5.1 c5.2)) kw_1196 dX8_length_32 ?_
    refine lv_astore (lv' := [(4, .ref (la (100 + z0) z1)), (2, .int x2), (3, .ref a2)]) hx hb dX8_length_35 hl (by decide) rfl (fun ls hl => ?_)
    refine lv_iload_n hx hb dX8_length_37 rfl (lv_at hl 1 rfl) ?_
    refine lv_aload hx hb dX8_length_38 (lv_at hl 0 rfl) ?_
    refine lv_iconst (v := (2 : Int32)) hx hb dX8_length_40 (by decide) ?_
    refine l_iald hx hb E hM (hp_m (hY.c3 c5.1 c5.2)) (⟨by decide, by decide⟩ : gIn (2 : Int32) 4) (v := (gi ν (100 + 8 * z0 + z1) 2)) (congrArg (ν.1 (100 + 8 * z0 + z1)) (by decide : (2 : Int32).toNatClampNeg = 2)) dX8_length_41 ?_
    refine lv_aload hx hb dX8_length_42 (lv_at hl 0 rfl) ?_
    refine lv_iconst (v := (3 : Int32)) hx hb dX8_length_44 (by decide) ?_
    refine l_iald hx hb E hM (hp_m (hY.c3 c5.1 c5.2)) (⟨by decide, by decide⟩ : gIn (3 : Int32) 4) (v := (gi ν (100 + 8 * z0 + z1) 3)) (congrArg (ν.1 (100 + 8 * z0 + z1)) (by decide : (3 : Int32).toNatClampNeg = 3)) dX8_length_45 ?_
    refine lv_iadd hx hb dX8_length_46 ?_
    refine lv_iadd hx hb dX8_length_47 ?_
    refine lv_istore_n (lv' := [(2, .int (x2 + ((gi ν (100 + 8 * z0 + z1) 2) + (gi ν (100 + 8 * z0 + z1) 3)))), (4, .ref (la (100 + z0) z1)), (3, .ref a2)]) hx hb dX8_length_48 rfl hl (by decide) rfl (fun ls hl => ?_)
    refine lv_goto (tgt := 17) hx hb dX8_length_49 (by decide) ?_
    refine W.widen (k := C0) (n := S0) (by omega) (by omega) ?_
    exact kc _ (Option.some.inj h).symm hM hS (lv_sub hl [0, 2] rfl)
set_option maxHeartbeats 4000000 in
theorem wl_L_length_17 {p : Program} {l : Launch} {e : Env} {s : State} {m : MethodId} {args : Array Value} {below : List Frame} {meth : Method} {c : Code} {D : va_G} {cy : Nat → ClassId} {ad : Nat → Nat} {b : Nat} {la : Nat → Nat → Nat} {ν : gM} {P P0 : va_W}   {μ : gM} {a2 : Nat} {r : Int32} {RES : Int32} {CM SM : Nat} (F : gF p s m meth c cX8_length RX8 5 (some .int)) (E : hE l D cy ad b s) (hY : lY cy ad la ν P) (hPd : ∀ (μ : gM) (H : Heap), hW D cy ad b μ P [] H → hW D cy ad b μ P0 [] H) (hcr : CM ≤ 1) (hsr : SM ≤ 4) (kx : ∀ (t : Int32) {H : Heap} {locs : List Loc} {ls : Array Slot}, r = t → hW D cy ad b μ P [] H → va_S (hA b) s.heap H locs → lv_has ls 5 [(2, .int t)] → W p l e ({ frames := 3, cells := 1, slots := 4, locals := 71 } : Room) s m args below meth c H locs CM SM (MQ below (hQ b (fun rv H => rv = some (.int RES) ∧ hW D cy ad b μ P0 [] H)) args s 1 4 (hA b)) (F0 m 52 ls []))  : ∀ (n : Nat) (x2 : Int32) (z0 : Nat) (z1 : Nat) (z2 : Int32) {cells slots : Nat}, cells + n * 0 ≤ CM → slots + n * 0 ≤ SM → gloop (fun t => b_L_length_17  t.1 t.2.1 t.2.2.1 t.2.2.2 ν μ) n (x2, z0, z1, z2) = some r → ∀ {H : Heap} {locs : List Loc} {ls : Array Slot}, hW D cy ad b μ P [(a2, lIt z1 z2 (gi ν (40 + z0) 0) (la 40 z0))] H → va_S (hA b) s.heap H locs → lv_has ls 5 [(2, .int x2), (3, .ref a2)] → W p l e ({ frames := 3, cells := 1, slots := 4, locals := 71 } : Room) s m args below meth c H locs cells slots (MQ below (hQ b (fun rv H => rv = some (.int RES) ∧ hW D cy ad b μ P0 [] H)) args s 1 4 (hA b)) (F0 m 17 ls []) := by
  intro n
  induction n with
  | zero =>
    intro x2 z0 z1 z2 cells slots hc hs h
    exact (gloop_0 h).elim
  | succ n ih =>
    intro x2 z0 z1 z2 cells slots hc hs h H locs ls hM hS hl
    obtain ⟨o, h0, hcc, hq⟩ := gloop_s h
    have h1 : b_L_length_17 x2 z0 z1 z2 ν μ = some o := h0
    exact wb_L_length_17 (C0 := cells + 0) (S0 := slots + 0) (CM := CM) (SM := SM) h1 F E hY hPd  (by omega) (by omega) (by omega) (by omega) hcr hsr (fun t H locs ls ho hM hS hl => ih t.1 t.2.1 t.2.2.1 t.2.2.2 (by omega) (by omega) (hcc t ho) hM hS hl) (fun t H locs ls ho hM hS hl => kx t (hq _ ho).symm hM hS hl) hM hS hl
def f_L_length (p1 : Int32) (ν μ : gM) : Option (Int32) :=
  gchk (gIn p1 (lLn ν)) (Option.bind (gloop (fun t => b_L_length_17  t.1 t.2.1 t.2.2.1 t.2.2.2 ν μ) 9 ((0 : Int32), p1.toNatClampNeg, 0, (-1))) (fun q8 => some q8))
set_option maxHeartbeats 4000000 in
set_option maxRecDepth 100000 in
theorem c_L_length {l : Launch} {D : va_G} {cy : Nat → ClassId} {ad : Nat → Nat} {b : Nat} {la : Nat → Nat → Nat} {μ ν : gM} {P : va_W} {p1 : Int32} {RES : Int32} (hY : lY cy ad la ν P) (h : f_L_length p1 ν μ = some RES) : Met l yX8_length [.code yX8_length cX8_length 5 (some .int)] ({ frames := 3, cells := 1, slots := 4, locals := 71 } : Room) (va_Pc [.ref (la 0 0), .int p1] (hB l D cy ad b μ P [])) (hQ b (fun rv H => rv = some (.int RES) ∧ hW D cy ad b μ P [] H)) 1 4 (hA b) := by
  refine Met.ofW (cc := cX8_length) (maxL := 5) (ret := (some .int)) (by decide +kernel) rfl ?_
  intro p e s m args below meth c s₁ B hml0 hv
  obtain ⟨rfl, E, hM⟩ := hv
  have F : gF p s m meth c cX8_length RX8 5 (some .int) := gF_of B hml0
  obtain ⟨hx, hb, hml, hown, hlocks, hr⟩ := id F
  have hS : va_S (hA b) s.heap s.heap [] := va_S.rf
  have hl := lv_entry ([.ref (la 0 0), .int p1]) (n := 5) (Nat.le_of_ble_eq_true rfl)
  rw [lg_entry_eq]
  generalize (lg_sl ([.ref (la 0 0), .int p1]) ++ List.replicate (5 - (lg_sl ([.ref (la 0 0), .int p1])).length) Slot.unset).toArray = ls at hl ⊢
  have hl : lv_has ls 5 [(0, .ref (la 0 0)), (1, .int p1)] := hl
  unfold f_L_length at h
  refine lv_iconst (v := (0 : Int32)) hx hb dX8_length_0 (by decide) ?_
  refine lv_istore_n (lv' := [(2, .int (0 : Int32)), (0, .ref (la 0 0)), (1, .int p1)]) hx hb dX8_length_1 rfl hl (by decide) rfl (fun ls hl => ?_)
  refine lv_aload_n hx hb dX8_length_2 rfl (lv_at hl 1 rfl) ?_
  refine h_get hx hb hown E hM (hp_m (hY.c1 0 rfl)) gC_X8 8 (by decide) (v := .ref (la 6 0)) rfl kw_1032 dX8_length_3 ?_
  refine lv_iload_n hx hb dX8_length_6 rfl (lv_at hl 2 rfl) ?_
  obtain ⟨c1, h⟩ := gchk_e h
  refine h_callV (As := [.int p1]) (rest := []) hx hb (hml.trans hl.1.symm) hown E hM hS xy_Jx4a65c_get_915e3 kw_870 (cl_get hY c1) (hp_m (hY.c1 6 rfl)) gC_Jx4a65c.1 rfl rfl (Nat.le_of_ble_eq_true rfl) ⟨(Nat.le_of_ble_eq_true rfl), (Nat.le_of_ble_eq_true rfl)⟩ ⟨(show _ ≤ 1 by omega), (show _ ≤ 4 by omega)⟩ dX8_length_7 (fun rv H locs hZ hS => ?_)
  obtain ⟨rfl, hM⟩ := hZ
  refine h_castY hx hb hown E hM (hp_m (hY.c2 c1.2 1 rfl)) gC_Jx4a65c kw_511 dX8_length_10 ?_
  refine h_callV (As := []) (rest := []) hx hb (hml.trans hl.1.symm) hown E hM hS xy_Jx4a65c_iterator_32c93 kw_1150 (cl_iter hY c1.2) (hp_m (hY.c2 c1.2 1 rfl)) gC_Jx4a65c.1 rfl rfl (Nat.le_of_ble_eq_true rfl) ⟨(Nat.le_of_ble_eq_true rfl), (Nat.le_of_ble_eq_true rfl)⟩ ⟨(show _ ≤ 1 by omega), (show _ ≤ 4 by omega)⟩ dX8_length_13 (fun rv H locs hZ hS => ?_)
  obtain ⟨a2, rfl, hM⟩ := hZ
  refine lv_astore_n (lv' := [(3, .ref a2), (2, .int (0 : Int32)), (0, .ref (la 0 0)), (1, .int p1)]) hx hb dX8_length_16 rfl hl (by decide) rfl (fun ls hl => ?_)
  obtain ⟨z9, h1, h⟩ := gbind_e h
  refine wl_L_length_17 (CM := 1) (SM := 4) F E hY (fun _ _ h => h)  (by omega) (by omega) (r := z9) (fun q8 H locs ls e1 hM hS hl => ?_) 9 (0 : Int32) p1.toNatClampNeg 0 (-1) (by omega) (by omega) h1 hM hS (lv_sub hl [1, 0] rfl)
  replace e1 : z9 = q8 := e1
  rw [e1] at h
  refine lv_iload_n hx hb dX8_length_52 rfl (lv_at hl 0 rfl) ?_
  obtain rfl := Option.some.inj h
  exact h_iret hx hb hr hlocks (by omega) (by omega) ⟨rfl, (fun _ _ h => h) _ _ (hW.drop hM)⟩ hS dX8_length_53

theorem dX8_restores_0 : decode cX8_restores 0 = .ok (.aload_n 0, 1) := by decide +kernel
theorem dX8_restores_1 : decode cX8_restores 1 = .ok (.getfield 12, 3) := by decide +kernel
theorem dX8_restores_4 : decode cX8_restores 4 = .ok (.invokevirtual 284, 3) := by decide +kernel
theorem dX8_restores_7 : decode cX8_restores 7 = .ok (.ifCond .ne 5, 3) := by decide +kernel
theorem dX8_restores_10 : decode cX8_restores 10 = .ok (.iconst 1, 1) := by decide +kernel
theorem dX8_restores_11 : decode cX8_restores 11 = .ok (.ireturn, 1) := by decide +kernel
theorem dX8_restores_12 : decode cX8_restores 12 = .ok (.aload_n 0, 1) := by decide +kernel
theorem dX8_restores_13 : decode cX8_restores 13 = .ok (.aload_n 0, 1) := by decide +kernel
theorem dX8_restores_14 : decode cX8_restores 14 = .ok (.getfield 43, 3) := by decide +kernel
theorem dX8_restores_17 : decode cX8_restores 17 = .ok (.newarray .long, 2) := by decide +kernel
theorem dX8_restores_19 : decode cX8_restores 19 = .ok (.putfield 260, 3) := by decide +kernel
theorem dX8_restores_22 : decode cX8_restores 22 = .ok (.iconst 0, 1) := by decide +kernel
theorem dX8_restores_23 : decode cX8_restores 23 = .ok (.istore_n 1, 1) := by decide +kernel
theorem dX8_restores_24 : decode cX8_restores 24 = .ok (.iload_n 1, 1) := by decide +kernel
theorem dX8_restores_25 : decode cX8_restores 25 = .ok (.aload_n 0, 1) := by decide +kernel
theorem dX8_restores_26 : decode cX8_restores 26 = .ok (.getfield 43, 3) := by decide +kernel
theorem dX8_restores_29 : decode cX8_restores 29 = .ok (.if_icmp .ge 23, 3) := by decide +kernel
theorem dX8_restores_32 : decode cX8_restores 32 = .ok (.aload_n 0, 1) := by decide +kernel
theorem dX8_restores_33 : decode cX8_restores 33 = .ok (.getfield 260, 3) := by decide +kernel
theorem dX8_restores_36 : decode cX8_restores 36 = .ok (.iload_n 1, 1) := by decide +kernel
theorem dX8_restores_37 : decode cX8_restores 37 = .ok (.aload_n 0, 1) := by decide +kernel
theorem dX8_restores_38 : decode cX8_restores 38 = .ok (.getfield 12, 3) := by decide +kernel
theorem dX8_restores_41 : decode cX8_restores 41 = .ok (.iload_n 1, 1) := by decide +kernel
theorem dX8_restores_42 : decode cX8_restores 42 = .ok (.invokevirtual 273, 3) := by decide +kernel
theorem dX8_restores_45 : decode cX8_restores 45 = .ok (.lastore, 1) := by decide +kernel
theorem dX8_restores_46 : decode cX8_restores 46 = .ok (.iinc 1 1, 3) := by decide +kernel
theorem dX8_restores_49 : decode cX8_restores 49 = .ok (.goto (-25), 3) := by decide +kernel
theorem dX8_restores_52 : decode cX8_restores 52 = .ok (.iconst 1, 1) := by decide +kernel
theorem dX8_restores_53 : decode cX8_restores 53 = .ok (.ireturn, 1) := by decide +kernel
def b_L_restores_24 (x1 : Int32) (ν μ : gM) : Option ((Int32 × gM) ⊕ (gM)) :=
  if ((gi ν 0 1) ≤ x1) then some (.inr ν) else gchk (¬ gi ν 0 10 = 0) (Option.bind (f_X7_heightOf x1 μ) (fun q8 => gchk (gIn x1 (lPt ν)) (Option.bind (some (sl ν 9 x1.toNatClampNeg q8)) (fun ν10 => some (.inl ((x1 + (1 : Int32)), ν10))))))
set_option maxHeartbeats 4000000 in
set_option maxRecDepth 100000 in
theorem wb_L_restores_24 {p : Program} {l : Launch} {e : Env} {s : State} {m : MethodId} {args : Array Value} {below : List Frame} {meth : Method} {c : Code} {D : va_G} {cy : Nat → ClassId} {ad : Nat → Nat} {b : Nat} {la : Nat → Nat → Nat} {ν : gM} {o0 : Nat} {x1 : Int32} {μ : gM}  {o : (Int32 × gM) ⊕ (gM)} {RES : (Bool) × gM} {cells slots C0 S0 CM SM : Nat} (h : b_L_restores_24 x1 ν μ = some o) (F : gF p s m meth c cX8_restores RX8 2 (some .boolean)) (E : hE l D cy ad b s) (hoo : la 0 0 = o0) (hc : cells + 0 ≤ C0) (hs : slots + 0 ≤ S0) (hcm : C0 ≤ CM) (hsm : S0 ≤ SM) (hcr : CM ≤ 1) (hsr : SM ≤ 8) (kc : ∀ (t : Int32 × gM) {H : Heap} {locs : List Loc} {ls : Array Slot}, o = .inl t → hV D cy ad la b μ t.2 [] H → va_S (hA b) s.heap H locs → lv_has ls 2 [(0, .ref (la 0 0)), (1, .int t.1)] → W p l e ({ frames := 3, cells := 1, slots := 8, locals := 63 } : Room) s m args below meth c H locs C0 S0 (MQ below (hQ b (fun rv H => ∃ la1 : Nat → Nat → Nat, rv = some (.int (b2i RES.1)) ∧ hV D cy ad la1 b μ RES.2 [] H ∧ la1 0 0 = o0)) args s 1 8 (hA b)) (F0 m 24 ls [])) (kx : ∀ (t : gM) {H : Heap} {locs : List Loc} {ls : Array Slot}, o = .inr t → hV D cy ad la b μ t [] H → va_S (hA b) s.heap H locs → lv_has ls 2 [] → W p l e ({ frames := 3, cells := 1, slots := 8, locals := 63 } : Room) s m args below meth c H locs CM SM (MQ below (hQ b (fun rv H => ∃ la1 : Nat → Nat → Nat, rv = some (.int (b2i RES.1)) ∧ hV D cy ad la1 b μ RES.2 [] H ∧ la1 0 0 = o0)) args s 1 8 (hA b)) (F0 m 52 ls []))  {H : Heap} {locs : List Loc} {ls : Array Slot} (hM : hV D cy ad la b μ ν [] H) (hS : va_S (hA b) s.heap H locs) (hl : lv_has ls 2 [(0, .ref (la 0 0)), (1, .int x1)]) : W p l e ({ frames := 3, cells := 1, slots := 8, locals := 63 } : Room) s m args below meth c H locs cells slots (MQ below (hQ b (fun rv H => ∃ la1 : Nat → Nat → Nat, rv = some (.int (b2i RES.1)) ∧ hV D cy ad la1 b μ RES.2 [] H ∧ la1 0 0 = o0)) args s 1 8 (hA b)) (F0 m 24 ls []) := by
  obtain ⟨hx, hb, hml, hown, hlocks, hr⟩ := id F
  obtain ⟨hs, hf, hM⟩ := hM
  have hY := lY_self (cy := cy) (ad := ad) (la := la) hs hf
  unfold b_L_restores_24 at h
  refine lv_iload_n hx hb dX8_restores_24 rfl (lv_at hl 1 rfl) ?_
  refine lv_aload_n hx hb dX8_restores_25 rfl (lv_at hl 0 rfl) ?_
  refine h_get hx hb hown E hM (hp_m (hY.c1 0 rfl)) gC_X8 1 (by decide) (v := .int (gi ν 0 1)) rfl kw_1025 dX8_restores_26 ?_
  refine lv_icmp_ge (tgt := 52) hx hb dX8_restores_29 (by decide) (fun c6 => ?_) (fun c6 => ?_)
  · replace h := gif_t c6 h
    refine W.widen (k := CM) (n := SM) (by omega) (by omega) ?_
    exact kx _ (Option.some.inj h).symm ⟨hs, hf, hM⟩ hS (lv_sub hl [] rfl)
  · replace h := gif_f c6 h
    refine lv_aload_n hx hb dX8_restores_32 rfl (lv_at hl 0 rfl) ?_
    obtain ⟨c7, h⟩ := gchk_e h
    refine h_get hx hb hown E hM (hp_m (hY.c1 0 rfl)) gC_X8 10 (by decide) (v := .ref (la 9 0)) (by rw [← lHv_a c7]; rfl) kw_1034 dX8_restores_33 ?_
    refine lv_iload_n hx hb dX8_restores_36 rfl (lv_at hl 1 rfl) ?_
    refine lv_aload_n hx hb dX8_restores_37 rfl (lv_at hl 0 rfl) ?_
    refine h_get hx hb hown E hM (hp_m (hY.c1 0 rfl)) gC_X8 0 (by decide) (v := .ref (ad 0)) rfl kw_1023 dX8_restores_38 ?_
    refine lv_iload_n hx hb dX8_restores_41 rfl (lv_at hl 1 rfl) ?_
    obtain ⟨q8, hq8, h⟩ := gbind_e h
    refine h_callC (As := [.int x1]) (rest := [.int x1, .ref (la 9 0)]) hx hb (hml.trans hl.1.symm) hown E hM hS hy_X7_heightOf kw_1468 (c_X7_heightOf hq8) hk_0 dd_0 rfl rfl rfl (Nat.le_of_ble_eq_true rfl) ⟨(Nat.le_of_ble_eq_true rfl), (Nat.le_of_ble_eq_true rfl)⟩ ⟨(show _ ≤ 1 by omega), (show _ ≤ 8 by omega)⟩ dX8_restores_42 (fun H locs hM hS => ?_)
    obtain ⟨c9, h⟩ := gchk_e h
    refine lw_last hx hb E hs hM hS c7 c9 dX8_restores_45 (fun H locs hM hS => ?_)
    obtain ⟨ν10, hν10, h⟩ := gupd h
    rw [← hν10] at hM
    replace hf : lF ν10 := by rw [hν10]; exact (sl_F (by unfold okid; omega) hs hf)
    replace hs : lS ν10 := by rw [hν10]; exact (sl_S (by unfold okid; omega) hs)
    have hY := lY_self (cy := cy) (ad := ad) (la := la) hs hf
    refine lv_iinc (v := (x1 + (1 : Int32))) (lv' := [(1, .int (x1 + (1 : Int32))), (0, .ref (la 0 0))]) hx hb dX8_restores_46 hl (k := 1) rfl rfl (by decide) rfl (fun ls hl => ?_)
    refine lv_goto (tgt := 24) hx hb dX8_restores_49 (by decide) ?_
    refine W.widen (k := C0) (n := S0) (by omega) (by omega) ?_
    exact kc _ (Option.some.inj h).symm ⟨hs, hf, hM⟩ hS (lv_sub hl [1, 0] rfl)
set_option maxHeartbeats 4000000 in
theorem wl_L_restores_24 {p : Program} {l : Launch} {e : Env} {s : State} {m : MethodId} {args : Array Value} {below : List Frame} {meth : Method} {c : Code} {D : va_G} {cy : Nat → ClassId} {ad : Nat → Nat} {b : Nat} {la : Nat → Nat → Nat} {o0 : Nat}   {μ : gM}  {r : gM} {RES : (Bool) × gM} {CM SM : Nat} (F : gF p s m meth c cX8_restores RX8 2 (some .boolean)) (E : hE l D cy ad b s) (hoo : la 0 0 = o0) (hcr : CM ≤ 1) (hsr : SM ≤ 8) (kx : ∀ (t : gM) {H : Heap} {locs : List Loc} {ls : Array Slot}, r = t → hV D cy ad la b μ t [] H → va_S (hA b) s.heap H locs → lv_has ls 2 [] → W p l e ({ frames := 3, cells := 1, slots := 8, locals := 63 } : Room) s m args below meth c H locs CM SM (MQ below (hQ b (fun rv H => ∃ la1 : Nat → Nat → Nat, rv = some (.int (b2i RES.1)) ∧ hV D cy ad la1 b μ RES.2 [] H ∧ la1 0 0 = o0)) args s 1 8 (hA b)) (F0 m 52 ls []))  : ∀ (n : Nat) (x1 : Int32)  (ν : gM) {cells slots : Nat}, cells + n * 0 ≤ CM → slots + n * 0 ≤ SM → gloop (fun t => b_L_restores_24  t.1 t.2 μ) n (x1, ν) = some r → ∀ {H : Heap} {locs : List Loc} {ls : Array Slot}, hV D cy ad la b μ ν [] H → va_S (hA b) s.heap H locs → lv_has ls 2 [(0, .ref (la 0 0)), (1, .int x1)] → W p l e ({ frames := 3, cells := 1, slots := 8, locals := 63 } : Room) s m args below meth c H locs cells slots (MQ below (hQ b (fun rv H => ∃ la1 : Nat → Nat → Nat, rv = some (.int (b2i RES.1)) ∧ hV D cy ad la1 b μ RES.2 [] H ∧ la1 0 0 = o0)) args s 1 8 (hA b)) (F0 m 24 ls []) := by
  intro n
  induction n with
  | zero =>
    intro x1 ν cells slots hc hs h
    exact (gloop_0 h).elim
  | succ n ih =>
    intro x1 ν cells slots hc hs h H locs ls hM hS hl
    obtain ⟨o, h0, hcc, hq⟩ := gloop_s h
    have h1 : b_L_restores_24 x1 ν μ = some o := h0
    exact wb_L_restores_24 (C0 := cells + 0) (S0 := slots + 0) (CM := CM) (SM := SM) h1 F E hoo (by omega) (by omega) (by omega) (by omega) hcr hsr (fun t H locs ls ho hM hS hl => ih t.1 t.2 (by omega) (by omega) (hcc t ho) hM hS hl) (fun t H locs ls ho hM hS hl => kx t (hq _ ho).symm hM hS hl) hM hS hl
def f_L_restores  (ν μ : gM) : Option ((Bool) × gM) :=
  Option.bind (f_X7_isAdjusted  μ) (fun q1 => if ((b2i q1) = 0) then some (true, ν) else Option.bind (some (sll (si ν 0 10 1) 9 (fun _ => 0))) (fun ν4 => Option.bind (gloop (fun t => b_L_restores_24  t.1 t.2 μ) 9 ((0 : Int32), ν4)) (fun q11 => some (true, q11))))
set_option maxHeartbeats 4000000 in
set_option maxRecDepth 100000 in
theorem c_L_restores {l : Launch} {D : va_G} {cy : Nat → ClassId} {ad : Nat → Nat} {b : Nat} {la : Nat → Nat → Nat} {μ ν : gM}  {RES : (Bool) × gM} (hs : lS ν) (hf : lF ν) (h : f_L_restores  ν μ = some RES) : Met l yX8_restores [.code yX8_restores cX8_restores 2 (some .boolean)] ({ frames := 3, cells := 1, slots := 8, locals := 63 } : Room) (va_Pc [.ref (la 0 0)] (hB l D cy ad b μ (lws cy ad la ν) [])) (hQ b (fun rv H => ∃ la1 : Nat → Nat → Nat, rv = some (.int (b2i RES.1)) ∧ hV D cy ad la1 b μ RES.2 [] H ∧ la1 0 0 = (la 0 0))) 1 8 (hA b) := by
  refine Met.ofW (cc := cX8_restores) (maxL := 2) (ret := (some .boolean)) (by decide +kernel) rfl ?_
  intro p e s m args below meth c s₁ B hml0 hv
  obtain ⟨rfl, E, hM⟩ := hv
  have hY := lY_self (cy := cy) (ad := ad) (la := la) hs hf
  have hoo : la 0 0 = la 0 0 := rfl
  have F : gF p s m meth c cX8_restores RX8 2 (some .boolean) := gF_of B hml0
  obtain ⟨hx, hb, hml, hown, hlocks, hr⟩ := id F
  have hS : va_S (hA b) s.heap s.heap [] := va_S.rf
  have hl := lv_entry ([.ref (la 0 0)]) (n := 2) (Nat.le_of_ble_eq_true rfl)
  rw [lg_entry_eq]
  generalize (lg_sl ([.ref (la 0 0)]) ++ List.replicate (2 - (lg_sl ([.ref (la 0 0)])).length) Slot.unset).toArray = ls at hl ⊢
  have hl : lv_has ls 2 [(0, .ref (la 0 0))] := hl
  unfold f_L_restores at h
  refine lv_aload_n hx hb dX8_restores_0 rfl (lv_at hl 0 rfl) ?_
  refine h_get hx hb hown E hM (hp_m (hY.c1 0 rfl)) gC_X8 0 (by decide) (v := .ref (ad 0)) rfl kw_1023 dX8_restores_1 ?_
  obtain ⟨q1, hq1, h⟩ := gbind_e h
  refine h_callC (As := []) (rest := []) hx hb (hml.trans hl.1.symm) hown E hM hS hy_X7_isAdjusted kw_1491 (c_X7_isAdjusted hq1) hk_0 dd_0 rfl rfl rfl (Nat.le_of_ble_eq_true rfl) ⟨(Nat.le_of_ble_eq_true rfl), (Nat.le_of_ble_eq_true rfl)⟩ ⟨(show _ ≤ 1 by omega), (show _ ≤ 8 by omega)⟩ dX8_restores_4 (fun H locs hM hS => ?_)
  refine lv_if_ne (tgt := 12) hx hb dX8_restores_7 (by decide) (fun c2 => ?_) (fun c2 => ?_)
  · replace h := gif_f c2 h
    refine lv_aload_n hx hb dX8_restores_12 rfl (lv_at hl 0 rfl) ?_
    refine lv_aload_n hx hb dX8_restores_13 rfl (lv_at hl 0 rfl) ?_
    refine h_get hx hb hown E hM (hp_m (hY.c1 0 rfl)) gC_X8 1 (by decide) (v := .int (gi ν 0 1)) rfl kw_1025 dX8_restores_14 ?_
    rw [hY.2.2.1.2]
    refine l_newJ hx hb E hM hS hY.2.2.1.1 (show _ ≤ 1 by omega) (show _ ≤ 8 by omega) dX8_restores_17 (fun a3 H hM hS => ?_)
    refine lw_hset hx hb hown E hM hS kw_1034 dX8_restores_19 (fun H locs hM hS => ?_)
    obtain ⟨ν4, hν4, h⟩ := gupd h
    rw [← hν4] at hM
    replace hf : lF ν4 := by rw [hν4]; exact (lAgH.F lAgH_s hf)
    replace hs : lS ν4 := by rw [hν4]; exact (lAgH.S lAgH_s hs)
    obtain ⟨la5, hla5⟩ : ∃ x, x = lset la 9 0 a3 := ⟨_, rfl⟩
    rw [← hla5] at hM
    have ho1 : la5 0 0 = la 0 0 := by rw [hla5, lset_ne (by omega)]
    replace hoo := ho1.trans hoo
    rw [← ho1] at hl
    have hY := lY_self (cy := cy) (ad := ad) (la := la5) hs hf
    refine lv_iconst (v := (0 : Int32)) hx hb dX8_restores_22 (by decide) ?_
    refine lv_istore_n (lv' := [(1, .int (0 : Int32)), (0, .ref (la5 0 0))]) hx hb dX8_restores_23 rfl hl (by decide) rfl (fun ls hl => ?_)
    obtain ⟨z12, h1, h⟩ := gbind_e h
    refine wl_L_restores_24 (CM := 1) (SM := 8) F E hoo (by omega) (by omega) (r := z12) (fun q11 H locs ls e1 hM hS hl => ?_) 9 (0 : Int32) (ν4) (by omega) (by omega) h1 ⟨hs, hf, hM⟩ hS (lv_sub hl [1, 0] rfl)
    replace e1 : z12 = q11 := e1
    rw [e1] at h
    obtain ⟨hs, hf, hM⟩ := hM
    have hY := lY_self (cy := cy) (ad := ad) (la := la5) hs hf
    refine lv_iconst (v := (1 : Int32)) hx hb dX8_restores_52 (by decide) ?_
    obtain rfl := Option.some.inj h
    exact h_zret (v := b2i true) hx hb hr hlocks (by omega) (by omega) (b2i_nar true) ⟨_, rfl, ⟨hs, hf, hW.drop hM⟩, hoo⟩ hS dX8_restores_53
  · replace h := gif_t c2 h
    refine lv_iconst (v := (1 : Int32)) hx hb dX8_restores_10 (by decide) ?_
    obtain rfl := Option.some.inj h
    exact h_zret (v := b2i true) hx hb hr hlocks (by omega) (by omega) (b2i_nar true) ⟨_, rfl, ⟨hs, hf, hW.drop hM⟩, hoo⟩ hS dX8_restores_11

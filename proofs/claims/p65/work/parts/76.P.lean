def j_Ln_225_1 (xs : Nat → Int32) (t9 : List Nat) (ν μ : gM) : Option (gM × gM) :=
  gchk ((([] : List Nat)).length + (t9).length ≤ 1024) (Option.bind (some (([] : List Nat) ++ t9)) (fun s69 => gchk ((s69).length + (sTx 2).length ≤ 1024) (Option.bind (some (s69 ++ sTx 2)) (fun s74 => gchk (gIn ((97 : Int32) + (1 : Int32)) 256) (gchk (gIn ((97 : Int32) + (1 : Int32)) 256 ∧ (s74).length + 1 ≤ 1024) (Option.bind (some (s74 ++ [((97 : Int32) + (1 : Int32)).toNatClampNeg])) (fun s80 => gchk ((s80).length + (sTx 3).length ≤ 1024) (Option.bind (some (s80 ++ sTx 3)) (fun s85 => gchk (gIn (iabs (gi ν 1 1)) 1000000 ∧ (s85).length + (sdig ((iabs (gi ν 1 1)).toNatClampNeg)).length ≤ 1024) (Option.bind (some (s85 ++ sdig ((iabs (gi ν 1 1)).toNatClampNeg))) (fun s91 => if (0 ≤ (gi ν 1 1)) then gchk ((s91).length + (sTx 1).length ≤ 1024) (Option.bind (some (s91 ++ sTx 1)) (fun s98 => j_Ln_300 xs s98 ν μ)) else gchk ((s91).length + (sTx 4).length ≤ 1024) (Option.bind (some (s91 ++ sTx 4)) (fun s263 => j_Ln_300 xs s263 ν μ)))))))))))))
set_option maxHeartbeats 20000000 in
set_option maxRecDepth 100000 in
theorem wj_Ln_225_1 {p : Program} {l : Launch} {e : Env} {s : State} {m : MethodId} {args : Array Value} {below : List Frame} {meth : Method} {c : Code} {D : va_G} {cy : Nat → ClassId} {ad : Nat → Nat} {b o0 : Nat} {sa va : Nat} {la : Nat → Nat → Nat} {μ ν : gM} {t9 : List Nat} {RES : gM × gM} {Z : Option Value → Heap → Prop} {cells slots : Nat} (h : j_Ln_225_1 (scr ad) t9 ν μ = some RES) (F : gF p s m meth c cX8_init RX8 4 none) (E : hE l D cy ad b s) (hoo : la 0 0 = o0) (hs : lS ν) (kz : ∀ (f : Nat → Nat) (la : Nat → Nat → Nat) (H : Heap), (∀ k, 60 ≤ k → f k = ad k) → la 0 0 = o0 → lS RES.1 → hW D cy f b RES.2 (lws cy f la RES.1) [] H → Z none H) (hc : cells + 1659 ≤ 1876) (hsl : slots + 2254496 ≤ 2285440) {H : Heap} {locs : List Loc} {ls : Array Slot} (hM : hW D cy ad b μ (lws cy ad la ν) [(sa, sO va), (va, sV cy t9)] H) (hS : va_S (hA b) s.heap H locs) (hl : lv_has ls 4 [(0, .ref (la 0 0)), (1, .ref (ad 465)), (2, .ref sa), (3, .int (1 : Int32))]) : W p l e ({ frames := 8, cells := 1876, slots := 2285440, locals := 202 } : Room) s m args below meth c H locs cells slots (MQ below (hQ b Z) args s 1876 2285440 (hA b)) (F0 m 225 ls []) := by
  obtain ⟨hx, hb, hml, hown, hlocks, hr⟩ := id F
  have hY := lY0_self (cy := cy) (ad := ad) (la := la) hs
  unfold j_Ln_225_1 at h
  refine lv_iload_n hx hb dX8_init_225 rfl (lv_at hl 3 rfl) ?_
  refine lv_iconst (v := (2 : Int32)) hx hb dX8_init_226 (by decide) ?_
  refine lv_icmp_ge (tgt := 300) hx hb dX8_init_227 (by decide) (fun c62 => ?_) (fun c62 => ?_)
  · exact absurd c62 (by decide)
  · refine h_new hx hb hown E hM hS gC_J4 kw_549 kw_550 kw_63 (fs := [.null, .int (0 : Int32), .int (0 : Int32), .int (0 : Int32)]) (by decide +kernel) (show _ ≤ 1876 by omega) (show _ ≤ 2285440 by omega) dX8_init_230 (fun a63 H hM hS => ?_)
    replace hM : hW D cy ad b μ (lws cy ad la ν) [(sa, sO va), (va, sV cy t9), (a63, .inr (10, [.null, .int (0 : Int32), .int (0 : Int32), .int (0 : Int32)]))] H := hM
    refine lv_dup hx hb dX8_init_233 rfl ?_
    replace hM := hW.right (X := [(sa, sO va), (va, sV cy t9)]) (T := [(a63, .inr (10, [.null, .int (0 : Int32), .int (0 : Int32), .int (0 : Int32)]))]) hM
    refine h_callI (As := []) (rest := [.ref a63]) hx hb (hml.trans hl.1.symm) hown E hM hS xi_J4_init_da8c8 kw_551 c_binit rfl rfl (Nat.le_of_ble_eq_true rfl) ⟨(Nat.le_of_ble_eq_true rfl), (Nat.le_of_ble_eq_true rfl)⟩ ⟨(show _ ≤ 1876 by omega), (show _ ≤ 2285440 by omega)⟩ dX8_init_234 (fun rv H locs hZ hS => ?_)
    obtain ⟨vb64, rfl, hM⟩ := hZ
    replace hM := hW.left (X := [(sa, sO va), (va, sV cy t9)]) (T := (sB cy a63 vb64 16 (0 : Int32) ([] : List Nat))) hM
    replace hM : hW D cy ad b μ (lws cy ad la ν) ([(sa, sO va), (va, sV cy t9)] ++ sB cy a63 vb64 16 (0 : Int32) ([] : List Nat)) H := hM
    refine lv_aload_n hx hb dX8_init_237 rfl (lv_at hl 2 rfl) ?_
    obtain ⟨c65, h⟩ := gchk_e h
    obtain ⟨s69, hs69, h⟩ := gnm h
    replace hM := hW.right (X := [(sa, sO va), (va, sV cy t9)]) (T := (sB cy a63 vb64 16 (0 : Int32) ([] : List Nat))) hM
    refine h_callV (As := [.ref sa]) (rest := []) hx hb (hml.trans hl.1.symm) hown E hM hS xy_J4_append_15ec4 kw_581 (c_appS (Or.inr ⟨List.mem_append_right _ (List.mem_of_getElem? (i := 0) rfl), List.mem_append_right _ (List.mem_of_getElem? (i := 1) rfl)⟩) c65 (show ([] : List Nat).length ≤ 16 by decide) (show 16 ≤ 2056 by decide)) (ht_m List.mem_cons_self) gC_J4.1 rfl rfl (Nat.le_of_ble_eq_true rfl) ⟨(Nat.le_of_ble_eq_true rfl), (Nat.le_of_ble_eq_true rfl)⟩ ⟨(show _ ≤ 1876 by omega), (show _ ≤ 2285440 by omega)⟩ dX8_init_238 (fun rv H locs hZ hS => ?_)
    obtain ⟨vb66, w67, rfl, he68, hM⟩ := hZ
    rw [← hs69] at hM he68
    replace hM := hW.left (X := [(sa, sO va), (va, sV cy t9)]) hM
    replace hM : hW D cy ad b μ (lws cy ad la ν) ([(sa, sO va), (va, sV cy t9)] ++ sB cy a63 vb66 w67 (0 : Int32) s69) H := hM
    refine va_ldcS hx hb hown (E.2.2.2.2.2.2.2.2.2.2.2.1 2 (by decide)) dX8_init_241 ?_
    obtain ⟨c70, h⟩ := gchk_e h
    obtain ⟨s74, hs74, h⟩ := gnm h
    replace hM := hW.right (X := [(sa, sO va), (va, sV cy t9)]) (T := (sB cy a63 vb66 w67 (0 : Int32) s69)) hM
    refine h_callV (As := [.ref (ad (470 + 2))]) (rest := []) hx hb (hml.trans hl.1.symm) hown E hM hS xy_J4_append_15ec4 kw_581 (c_appS (sSrc_k (by decide : 2 < 9)) c70 he68.1 he68.2) (ht_m List.mem_cons_self) gC_J4.1 rfl rfl (Nat.le_of_ble_eq_true rfl) ⟨(Nat.le_of_ble_eq_true rfl), (Nat.le_of_ble_eq_true rfl)⟩ ⟨(show _ ≤ 1876 by omega), (show _ ≤ 2285440 by omega)⟩ dX8_init_243 (fun rv H locs hZ hS => ?_)
    obtain ⟨vb71, w72, rfl, he73, hM⟩ := hZ
    rw [← hs74] at hM he73
    replace hM := hW.left (X := [(sa, sO va), (va, sV cy t9)]) hM
    replace hM : hW D cy ad b μ (lws cy ad la ν) ([(sa, sO va), (va, sV cy t9)] ++ sB cy a63 vb71 w72 (0 : Int32) s74) H := hM
    refine lv_bipush (v := (97 : Int32)) hx hb dX8_init_246 (by decide) ?_
    refine lv_iload_n hx hb dX8_init_248 rfl (lv_at hl 3 rfl) ?_
    refine lv_iadd hx hb dX8_init_249 ?_
    obtain ⟨c75, h⟩ := gchk_e h
    refine lv_i2c (v := ((97 : Int32) + (1 : Int32))) hx hb dX8_init_250 (x_i2c c75) ?_
    obtain ⟨c76, h⟩ := gchk_e h
    obtain ⟨s80, hs80, h⟩ := gnm h
    replace hM := hW.right (X := [(sa, sO va), (va, sV cy t9)]) (T := (sB cy a63 vb71 w72 (0 : Int32) s74)) hM
    refine h_callV (As := [.int ((97 : Int32) + (1 : Int32))]) (rest := []) hx hb (hml.trans hl.1.symm) hown E hM hS xy_J4_append_cf468 kw_786 (by have h9 := c_appC (l := l) (D := D) (cy := cy) (ad := ad) (b := b) (μ := μ) (P := ((lws cy ad la ν) ++ [(sa, sO va), (va, sV cy t9)])) (ba := a63) (vb := vb71) (w := w72) (ml := 0) (U := s74) c76.1.2 c76.2 he73.1 he73.2; rwa [← gIn_e c76.1] at h9) (ht_m List.mem_cons_self) gC_J4.1 rfl rfl (Nat.le_of_ble_eq_true rfl) ⟨(Nat.le_of_ble_eq_true rfl), (Nat.le_of_ble_eq_true rfl)⟩ ⟨(show _ ≤ 1876 by omega), (show _ ≤ 2285440 by omega)⟩ dX8_init_251 (fun rv H locs hZ hS => ?_)
    obtain ⟨vb77, w78, rfl, he79, hM⟩ := hZ
    rw [← hs80] at hM he79
    replace hM := hW.left (X := [(sa, sO va), (va, sV cy t9)]) hM
    replace hM : hW D cy ad b μ (lws cy ad la ν) ([(sa, sO va), (va, sV cy t9)] ++ sB cy a63 vb77 w78 (0 : Int32) s80) H := hM
    refine va_ldcS hx hb hown (E.2.2.2.2.2.2.2.2.2.2.2.1 3 (by decide)) dX8_init_254 ?_
    obtain ⟨c81, h⟩ := gchk_e h
    obtain ⟨s85, hs85, h⟩ := gnm h
    replace hM := hW.right (X := [(sa, sO va), (va, sV cy t9)]) (T := (sB cy a63 vb77 w78 (0 : Int32) s80)) hM
    refine h_callV (As := [.ref (ad (470 + 3))]) (rest := []) hx hb (hml.trans hl.1.symm) hown E hM hS xy_J4_append_15ec4 kw_581 (c_appS (sSrc_k (by decide : 3 < 9)) c81 he79.1 he79.2) (ht_m List.mem_cons_self) gC_J4.1 rfl rfl (Nat.le_of_ble_eq_true rfl) ⟨(Nat.le_of_ble_eq_true rfl), (Nat.le_of_ble_eq_true rfl)⟩ ⟨(show _ ≤ 1876 by omega), (show _ ≤ 2285440 by omega)⟩ dX8_init_256 (fun rv H locs hZ hS => ?_)
    obtain ⟨vb82, w83, rfl, he84, hM⟩ := hZ
    rw [← hs85] at hM he84
    replace hM := hW.left (X := [(sa, sO va), (va, sV cy t9)]) hM
    replace hM : hW D cy ad b μ (lws cy ad la ν) ([(sa, sO va), (va, sV cy t9)] ++ sB cy a63 vb82 w83 (0 : Int32) s85) H := hM
    refine lv_aload_n hx hb dX8_init_259 rfl (lv_at hl 0 rfl) ?_
    refine h_get hx hb hown E hM (hp_m hY.n0) gC_X8 3 (by decide) (v := .ref (la 1 0)) rfl kw_1027 dX8_init_260 ?_
    refine lv_iload_n hx hb dX8_init_263 rfl (lv_at hl 3 rfl) ?_
    refine l_iald hx hb E hM (hp_m hY.n1) (⟨by decide, by decide⟩ : gIn (1 : Int32) 2) (v := (gi ν 1 1)) (congrArg (ν.1 1) (by decide : (1 : Int32).toNatClampNeg = 1)) dX8_init_264 ?_
    refine va_mabs hx hb (hml.trans hl.1.symm) hown (E.kw kw_809) (E.kw kw_810) (E.kw kw_67) (E.kw kw_811) (Nat.le_of_ble_eq_true rfl) (Nat.le_of_ble_eq_true rfl) (show _ ≤ 1876 by omega) (show _ ≤ 2285440 by omega) dX8_init_265 ?_
    obtain ⟨c87, h⟩ := gchk_e h
    obtain ⟨s91, hs91, h⟩ := gnm h
    replace hM := hW.right (X := [(sa, sO va), (va, sV cy t9)]) (T := (sB cy a63 vb82 w83 (0 : Int32) s85)) hM
    refine h_callV (As := [.int (iabs (gi ν 1 1))]) (rest := []) hx hb (hml.trans hl.1.symm) hown E hM hS xy_J4_append_bf812 kw_699 (by have h9 := c_appI (l := l) (D := D) (cy := cy) (ad := ad) (b := b) (μ := μ) (P := ((lws cy ad la ν) ++ [(sa, sO va), (va, sV cy t9)])) (ba := a63) (vb := vb82) (w := w83) (ml := 0) (U := s85) c87.1.2 c87.2 he84.1 he84.2; rwa [← gIn_e c87.1] at h9) (ht_m List.mem_cons_self) gC_J4.1 rfl rfl (Nat.le_of_ble_eq_true rfl) ⟨(Nat.le_of_ble_eq_true rfl), (Nat.le_of_ble_eq_true rfl)⟩ ⟨(show _ ≤ 1876 by omega), (show _ ≤ 2285440 by omega)⟩ dX8_init_268 (fun rv H locs hZ hS => ?_)
    obtain ⟨vb88, w89, rfl, he90, hM⟩ := hZ
    rw [← hs91] at hM he90
    replace hM := hW.left (X := [(sa, sO va), (va, sV cy t9)]) hM
    replace hM : hW D cy ad b μ (lws cy ad la ν) ([(sa, sO va), (va, sV cy t9)] ++ sB cy a63 vb88 w89 (0 : Int32) s91) H := hM
    refine lv_aload_n hx hb dX8_init_271 rfl (lv_at hl 0 rfl) ?_
    refine h_get hx hb hown E hM (hp_m hY.n0) gC_X8 3 (by decide) (v := .ref (la 1 0)) rfl kw_1027 dX8_init_272 ?_
    refine lv_iload_n hx hb dX8_init_275 rfl (lv_at hl 3 rfl) ?_
    refine l_iald hx hb E hM (hp_m hY.n1) (⟨by decide, by decide⟩ : gIn (1 : Int32) 2) (v := (gi ν 1 1)) (congrArg (ν.1 1) (by decide : (1 : Int32).toNatClampNeg = 1)) dX8_init_276 ?_
    refine lv_if_ge (tgt := 285) hx hb dX8_init_277 (by decide) (fun c93 => ?_) (fun c93 => ?_)
    · replace h := gif_t c93 h
      refine va_ldcS hx hb hown (E.2.2.2.2.2.2.2.2.2.2.2.1 1 (by decide)) dX8_init_285 ?_
      obtain ⟨c94, h⟩ := gchk_e h
      obtain ⟨s98, hs98, h⟩ := gnm h
      replace hM := hW.right (X := [(sa, sO va), (va, sV cy t9)]) (T := (sB cy a63 vb88 w89 (0 : Int32) s91)) hM
      refine h_callV (As := [.ref (ad (470 + 1))]) (rest := []) hx hb (hml.trans hl.1.symm) hown E hM hS xy_J4_append_15ec4 kw_581 (c_appS (sSrc_k (by decide : 1 < 9)) c94 he90.1 he90.2) (ht_m List.mem_cons_self) gC_J4.1 rfl rfl (Nat.le_of_ble_eq_true rfl) ⟨(Nat.le_of_ble_eq_true rfl), (Nat.le_of_ble_eq_true rfl)⟩ ⟨(show _ ≤ 1876 by omega), (show _ ≤ 2285440 by omega)⟩ dX8_init_287 (fun rv H locs hZ hS => ?_)
      obtain ⟨vb95, w96, rfl, he97, hM⟩ := hZ
      rw [← hs98] at hM he97
      replace hM := hW.left (X := [(sa, sO va), (va, sV cy t9)]) hM
      replace hM : hW D cy ad b μ (lws cy ad la ν) ([(sa, sO va), (va, sV cy t9)] ++ sB cy a63 vb95 w96 (0 : Int32) s98) H := hM
      replace hM := hW.right (X := [(sa, sO va), (va, sV cy t9)]) (T := (sB cy a63 vb95 w96 (0 : Int32) s98)) hM
      refine h_callV (As := []) (rest := []) hx hb (hml.trans hl.1.symm) hown E hM hS xy_J4_toString_0e30d kw_725 (c_toS he97.1 he97.2) (ht_m List.mem_cons_self) gC_J4.1 rfl rfl (Nat.le_of_ble_eq_true rfl) ⟨(Nat.le_of_ble_eq_true rfl), (Nat.le_of_ble_eq_true rfl)⟩ ⟨(show _ ≤ 1876 by omega), (show _ ≤ 2285440 by omega)⟩ dX8_init_290 (fun rv H locs hZ hS => ?_)
      obtain ⟨a100, va101, rfl, hM⟩ := hZ
      replace hM := hW.left (X := [(sa, sO va), (va, sV cy t9)]) hM
      replace hM := hW.cutM (A := [(sa, sO va), (va, sV cy t9)]) hM
      replace hM : hW D cy ad b μ (lws cy ad la ν) [(sa, sO va), (va, sV cy t9), (a100, sO va101), (va101, sV cy s98)] H := hM
      refine lv_astore_n (lv' := [(2, .ref a100), (0, .ref (la 0 0)), (1, .ref (ad 465)), (3, .int (1 : Int32))]) hx hb dX8_init_293 rfl hl (by decide) rfl (fun ls hl => ?_)
      refine lv_iinc (v := (2 : Int32)) (lv' := [(3, .int (2 : Int32)), (2, .ref a100), (0, .ref (la 0 0)), (1, .ref (ad 465))]) hx hb dX8_init_294 hl (k := 3) rfl (by decide) (by decide) rfl (fun ls hl => ?_)
      refine lv_goto (tgt := 225) hx hb dX8_init_297 (by decide) ?_
      refine lv_iload_n hx hb dX8_init_225 rfl (lv_at hl 0 rfl) ?_
      refine lv_iconst (v := (2 : Int32)) hx hb dX8_init_226 (by decide) ?_
      refine lv_icmp_ge (tgt := 300) hx hb dX8_init_227 (by decide) (fun c102 => ?_) (fun c102 => ?_)
      · replace hM := hW.cut0 (B := [(sa, sO va), (va, sV cy t9)]) (C := [(a100, sO va101), (va101, sV cy s98)]) hM
        replace hM : hW D cy ad b μ (lws cy ad la ν) [(a100, sO va101), (va101, sV cy s98)] H := hM
        exact wj_Ln_300 h F E hoo hs kz (by omega) (by first | (simp only [Nat.add_assoc, Nat.reduceAdd]; exact le_big hsl rfl) | exact le_big hsl rfl) hM hS (lv_sub hl [2, 3, 1] rfl)
      · exact absurd (by decide) c102
    · replace h := gif_f c93 h
      refine va_ldcS hx hb hown (E.2.2.2.2.2.2.2.2.2.2.2.1 4 (by decide)) dX8_init_280 ?_
      refine lv_goto (tgt := 287) hx hb dX8_init_282 (by decide) ?_
      obtain ⟨c259, h⟩ := gchk_e h
      obtain ⟨s263, hs263, h⟩ := gnm h
      replace hM := hW.right (X := [(sa, sO va), (va, sV cy t9)]) (T := (sB cy a63 vb88 w89 (0 : Int32) s91)) hM
      refine h_callV (As := [.ref (ad (470 + 4))]) (rest := []) hx hb (hml.trans hl.1.symm) hown E hM hS xy_J4_append_15ec4 kw_581 (c_appS (sSrc_k (by decide : 4 < 9)) c259 he90.1 he90.2) (ht_m List.mem_cons_self) gC_J4.1 rfl rfl (Nat.le_of_ble_eq_true rfl) ⟨(Nat.le_of_ble_eq_true rfl), (Nat.le_of_ble_eq_true rfl)⟩ ⟨(show _ ≤ 1876 by omega), (show _ ≤ 2285440 by omega)⟩ dX8_init_287 (fun rv H locs hZ hS => ?_)
      obtain ⟨vb260, w261, rfl, he262, hM⟩ := hZ
      rw [← hs263] at hM he262
      replace hM := hW.left (X := [(sa, sO va), (va, sV cy t9)]) hM
      replace hM : hW D cy ad b μ (lws cy ad la ν) ([(sa, sO va), (va, sV cy t9)] ++ sB cy a63 vb260 w261 (0 : Int32) s263) H := hM
      replace hM := hW.right (X := [(sa, sO va), (va, sV cy t9)]) (T := (sB cy a63 vb260 w261 (0 : Int32) s263)) hM
      refine h_callV (As := []) (rest := []) hx hb (hml.trans hl.1.symm) hown E hM hS xy_J4_toString_0e30d kw_725 (c_toS he262.1 he262.2) (ht_m List.mem_cons_self) gC_J4.1 rfl rfl (Nat.le_of_ble_eq_true rfl) ⟨(Nat.le_of_ble_eq_true rfl), (Nat.le_of_ble_eq_true rfl)⟩ ⟨(show _ ≤ 1876 by omega), (show _ ≤ 2285440 by omega)⟩ dX8_init_290 (fun rv H locs hZ hS => ?_)
      obtain ⟨a265, va266, rfl, hM⟩ := hZ
      replace hM := hW.left (X := [(sa, sO va), (va, sV cy t9)]) hM
      replace hM := hW.cutM (A := [(sa, sO va), (va, sV cy t9)]) hM
      replace hM : hW D cy ad b μ (lws cy ad la ν) [(sa, sO va), (va, sV cy t9), (a265, sO va266), (va266, sV cy s263)] H := hM
      refine lv_astore_n (lv' := [(2, .ref a265), (0, .ref (la 0 0)), (1, .ref (ad 465)), (3, .int (1 : Int32))]) hx hb dX8_init_293 rfl hl (by decide) rfl (fun ls hl => ?_)
      refine lv_iinc (v := (2 : Int32)) (lv' := [(3, .int (2 : Int32)), (2, .ref a265), (0, .ref (la 0 0)), (1, .ref (ad 465))]) hx hb dX8_init_294 hl (k := 3) rfl (by decide) (by decide) rfl (fun ls hl => ?_)
      refine lv_goto (tgt := 225) hx hb dX8_init_297 (by decide) ?_
      refine lv_iload_n hx hb dX8_init_225 rfl (lv_at hl 0 rfl) ?_
      refine lv_iconst (v := (2 : Int32)) hx hb dX8_init_226 (by decide) ?_
      refine lv_icmp_ge (tgt := 300) hx hb dX8_init_227 (by decide) (fun c267 => ?_) (fun c267 => ?_)
      · replace hM := hW.cut0 (B := [(sa, sO va), (va, sV cy t9)]) (C := [(a265, sO va266), (va266, sV cy s263)]) hM
        replace hM : hW D cy ad b μ (lws cy ad la ν) [(a265, sO va266), (va266, sV cy s263)] H := hM
        exact wj_Ln_300 h F E hoo hs kz (by omega) (by first | (simp only [Nat.add_assoc, Nat.reduceAdd]; exact le_big hsl rfl) | exact le_big hsl rfl) hM hS (lv_sub hl [2, 3, 1] rfl)
      · exact absurd (by decide) c267
def j_Ln_193 (xs : Nat → Int32) (ν μ : gM) : Option (gM × gM) :=
  gchk ((([] : List Nat)).length + (sTx 0).length ≤ 1024) (Option.bind (some (([] : List Nat) ++ sTx 0)) (fun s7 => gchk (gIn (gi ν 8 0) 1000000 ∧ (s7).length + (sdig ((gi ν 8 0).toNatClampNeg)).length ≤ 1024) (Option.bind (some (s7 ++ sdig ((gi ν 8 0).toNatClampNeg))) (fun s13 => gchk ((s13).length + (sTx 1).length ≤ 1024) (Option.bind (some (s13 ++ sTx 1)) (fun s18 => gchk ((([] : List Nat)).length + (s18).length ≤ 1024) (Option.bind (some (([] : List Nat) ++ s18)) (fun s29 => gchk ((s29).length + (sTx 2).length ≤ 1024) (Option.bind (some (s29 ++ sTx 2)) (fun s34 => gchk (gIn ((97 : Int32) + (0 : Int32)) 256) (gchk (gIn ((97 : Int32) + (0 : Int32)) 256 ∧ (s34).length + 1 ≤ 1024) (Option.bind (some (s34 ++ [((97 : Int32) + (0 : Int32)).toNatClampNeg])) (fun s40 => gchk ((s40).length + (sTx 3).length ≤ 1024) (Option.bind (some (s40 ++ sTx 3)) (fun s45 => gchk (gIn (iabs (gi ν 1 0)) 1000000 ∧ (s45).length + (sdig ((iabs (gi ν 1 0)).toNatClampNeg)).length ≤ 1024) (Option.bind (some (s45 ++ sdig ((iabs (gi ν 1 0)).toNatClampNeg))) (fun s51 => if (0 ≤ (gi ν 1 0)) then gchk ((s51).length + (sTx 1).length ≤ 1024) (Option.bind (some (s51 ++ sTx 1)) (fun s58 => j_Ln_225_1 xs s58 ν μ)) else gchk ((s51).length + (sTx 4).length ≤ 1024) (Option.bind (some (s51 ++ sTx 4)) (fun s272 => j_Ln_225_1 xs s272 ν μ)))))))))))))))))))
set_option maxHeartbeats 20000000 in
set_option maxRecDepth 100000 in
theorem wj_Ln_193 {p : Program} {l : Launch} {e : Env} {s : State} {m : MethodId} {args : Array Value} {below : List Frame} {meth : Method} {c : Code} {D : va_G} {cy : Nat → ClassId} {ad : Nat → Nat} {b o0 : Nat} {la : Nat → Nat → Nat} {μ ν : gM} {RES : gM × gM} {Z : Option Value → Heap → Prop} {cells slots : Nat} (h : j_Ln_193 (scr ad) ν μ = some RES) (F : gF p s m meth c cX8_init RX8 4 none) (E : hE l D cy ad b s) (hoo : la 0 0 = o0) (hs : lS ν) (kz : ∀ (f : Nat → Nat) (la : Nat → Nat → Nat) (H : Heap), (∀ k, 60 ≤ k → f k = ad k) → la 0 0 = o0 → lS RES.1 → hW D cy f b RES.2 (lws cy f la RES.1) [] H → Z none H) (hc : cells + 1676 ≤ 1876) (hsl : slots + 2281240 ≤ 2285440) {H : Heap} {locs : List Loc} {ls : Array Slot} (hM : hW D cy ad b μ (lws cy ad la ν) [] H) (hS : va_S (hA b) s.heap H locs) (hl : lv_has ls 4 [(0, .ref (la 0 0)), (1, .ref (ad 465))]) : W p l e ({ frames := 8, cells := 1876, slots := 2285440, locals := 202 } : Room) s m args below meth c H locs cells slots (MQ below (hQ b Z) args s 1876 2285440 (hA b)) (F0 m 193 ls []) := by
  obtain ⟨hx, hb, hml, hown, hlocks, hr⟩ := id F
  have hY := lY0_self (cy := cy) (ad := ad) (la := la) hs
  unfold j_Ln_193 at h
  refine h_new hx hb hown E hM hS gC_J4 kw_549 kw_550 kw_63 (fs := [.null, .int (0 : Int32), .int (0 : Int32), .int (0 : Int32)]) (by decide +kernel) (show _ ≤ 1876 by omega) (show _ ≤ 2285440 by omega) dX8_init_193 (fun a1 H hM hS => ?_)
  replace hM : hW D cy ad b μ (lws cy ad la ν) [(a1, .inr (10, [.null, .int (0 : Int32), .int (0 : Int32), .int (0 : Int32)]))] H := hM
  refine lv_dup hx hb dX8_init_196 rfl ?_
  refine h_callI (As := []) (rest := [.ref a1]) hx hb (hml.trans hl.1.symm) hown E hM hS xi_J4_init_da8c8 kw_551 c_binit rfl rfl (Nat.le_of_ble_eq_true rfl) ⟨(Nat.le_of_ble_eq_true rfl), (Nat.le_of_ble_eq_true rfl)⟩ ⟨(show _ ≤ 1876 by omega), (show _ ≤ 2285440 by omega)⟩ dX8_init_197 (fun rv H locs hZ hS => ?_)
  obtain ⟨vb2, rfl, hM⟩ := hZ
  replace hM : hW D cy ad b μ (lws cy ad la ν) (sB cy a1 vb2 16 (0 : Int32) ([] : List Nat)) H := hM
  refine va_ldcS hx hb hown (E.2.2.2.2.2.2.2.2.2.2.2.1 0 (by decide)) dX8_init_200 ?_
  obtain ⟨c3, h⟩ := gchk_e h
  obtain ⟨s7, hs7, h⟩ := gnm h
  refine h_callV (As := [.ref (ad (470 + 0))]) (rest := []) hx hb (hml.trans hl.1.symm) hown E hM hS xy_J4_append_15ec4 kw_581 (c_appS (sSrc_k (by decide : 0 < 9)) c3 (show ([] : List Nat).length ≤ 16 by decide) (show 16 ≤ 2056 by decide)) (ht_m List.mem_cons_self) gC_J4.1 rfl rfl (Nat.le_of_ble_eq_true rfl) ⟨(Nat.le_of_ble_eq_true rfl), (Nat.le_of_ble_eq_true rfl)⟩ ⟨(show _ ≤ 1876 by omega), (show _ ≤ 2285440 by omega)⟩ dX8_init_202 (fun rv H locs hZ hS => ?_)
  obtain ⟨vb4, w5, rfl, he6, hM⟩ := hZ
  rw [← hs7] at hM he6
  replace hM : hW D cy ad b μ (lws cy ad la ν) (sB cy a1 vb4 w5 (0 : Int32) s7) H := hM
  refine lv_aload_n hx hb dX8_init_205 rfl (lv_at hl 0 rfl) ?_
  refine h_get hx hb hown E hM (hp_m hY.n0) gC_X8 9 (by decide) (v := .ref (la 8 0)) rfl kw_1033 dX8_init_206 ?_
  refine lv_iconst (v := (0 : Int32)) hx hb dX8_init_209 (by decide) ?_
  refine l_iald hx hb E hM (hp_m hY.n8) (⟨by decide, by decide⟩ : gIn (0 : Int32) 3) (v := (gi ν 8 0)) (congrArg (ν.1 8) (by decide : (0 : Int32).toNatClampNeg = 0)) dX8_init_210 ?_
  obtain ⟨c9, h⟩ := gchk_e h
  obtain ⟨s13, hs13, h⟩ := gnm h
  refine h_callV (As := [.int (gi ν 8 0)]) (rest := []) hx hb (hml.trans hl.1.symm) hown E hM hS xy_J4_append_bf812 kw_699 (by have h9 := c_appI (l := l) (D := D) (cy := cy) (ad := ad) (b := b) (μ := μ) (P := (lws cy ad la ν)) (ba := a1) (vb := vb4) (w := w5) (ml := 0) (U := s7) c9.1.2 c9.2 he6.1 he6.2; rwa [← gIn_e c9.1] at h9) (ht_m List.mem_cons_self) gC_J4.1 rfl rfl (Nat.le_of_ble_eq_true rfl) ⟨(Nat.le_of_ble_eq_true rfl), (Nat.le_of_ble_eq_true rfl)⟩ ⟨(show _ ≤ 1876 by omega), (show _ ≤ 2285440 by omega)⟩ dX8_init_211 (fun rv H locs hZ hS => ?_)
  obtain ⟨vb10, w11, rfl, he12, hM⟩ := hZ
  rw [← hs13] at hM he12
  replace hM : hW D cy ad b μ (lws cy ad la ν) (sB cy a1 vb10 w11 (0 : Int32) s13) H := hM
  refine va_ldcS hx hb hown (E.2.2.2.2.2.2.2.2.2.2.2.1 1 (by decide)) dX8_init_214 ?_
  obtain ⟨c14, h⟩ := gchk_e h
  obtain ⟨s18, hs18, h⟩ := gnm h
  refine h_callV (As := [.ref (ad (470 + 1))]) (rest := []) hx hb (hml.trans hl.1.symm) hown E hM hS xy_J4_append_15ec4 kw_581 (c_appS (sSrc_k (by decide : 1 < 9)) c14 he12.1 he12.2) (ht_m List.mem_cons_self) gC_J4.1 rfl rfl (Nat.le_of_ble_eq_true rfl) ⟨(Nat.le_of_ble_eq_true rfl), (Nat.le_of_ble_eq_true rfl)⟩ ⟨(show _ ≤ 1876 by omega), (show _ ≤ 2285440 by omega)⟩ dX8_init_216 (fun rv H locs hZ hS => ?_)
  obtain ⟨vb15, w16, rfl, he17, hM⟩ := hZ
  rw [← hs18] at hM he17
  replace hM : hW D cy ad b μ (lws cy ad la ν) (sB cy a1 vb15 w16 (0 : Int32) s18) H := hM
  refine h_callV (As := []) (rest := []) hx hb (hml.trans hl.1.symm) hown E hM hS xy_J4_toString_0e30d kw_725 (c_toS he17.1 he17.2) (ht_m List.mem_cons_self) gC_J4.1 rfl rfl (Nat.le_of_ble_eq_true rfl) ⟨(Nat.le_of_ble_eq_true rfl), (Nat.le_of_ble_eq_true rfl)⟩ ⟨(show _ ≤ 1876 by omega), (show _ ≤ 2285440 by omega)⟩ dX8_init_219 (fun rv H locs hZ hS => ?_)
  obtain ⟨a20, va21, rfl, hM⟩ := hZ
  replace hM := hW.cut0 hM
  replace hM : hW D cy ad b μ (lws cy ad la ν) [(a20, sO va21), (va21, sV cy s18)] H := hM
  refine lv_astore_n (lv' := [(2, .ref a20), (0, .ref (la 0 0)), (1, .ref (ad 465))]) hx hb dX8_init_222 rfl hl (by decide) rfl (fun ls hl => ?_)
  refine lv_iconst (v := (0 : Int32)) hx hb dX8_init_223 (by decide) ?_
  refine lv_istore_n (lv' := [(3, .int (0 : Int32)), (2, .ref a20), (0, .ref (la 0 0)), (1, .ref (ad 465))]) hx hb dX8_init_224 rfl hl (by decide) rfl (fun ls hl => ?_)
  refine lv_iload_n hx hb dX8_init_225 rfl (lv_at hl 0 rfl) ?_
  refine lv_iconst (v := (2 : Int32)) hx hb dX8_init_226 (by decide) ?_
  refine lv_icmp_ge (tgt := 300) hx hb dX8_init_227 (by decide) (fun c22 => ?_) (fun c22 => ?_)
  · exact absurd c22 (by decide)
  · refine h_new hx hb hown E hM hS gC_J4 kw_549 kw_550 kw_63 (fs := [.null, .int (0 : Int32), .int (0 : Int32), .int (0 : Int32)]) (by decide +kernel) (show _ ≤ 1876 by omega) (show _ ≤ 2285440 by omega) dX8_init_230 (fun a23 H hM hS => ?_)
    replace hM : hW D cy ad b μ (lws cy ad la ν) [(a20, sO va21), (va21, sV cy s18), (a23, .inr (10, [.null, .int (0 : Int32), .int (0 : Int32), .int (0 : Int32)]))] H := hM
    refine lv_dup hx hb dX8_init_233 rfl ?_
    replace hM := hW.right (X := [(a20, sO va21), (va21, sV cy s18)]) (T := [(a23, .inr (10, [.null, .int (0 : Int32), .int (0 : Int32), .int (0 : Int32)]))]) hM
    refine h_callI (As := []) (rest := [.ref a23]) hx hb (hml.trans hl.1.symm) hown E hM hS xi_J4_init_da8c8 kw_551 c_binit rfl rfl (Nat.le_of_ble_eq_true rfl) ⟨(Nat.le_of_ble_eq_true rfl), (Nat.le_of_ble_eq_true rfl)⟩ ⟨(show _ ≤ 1876 by omega), (show _ ≤ 2285440 by omega)⟩ dX8_init_234 (fun rv H locs hZ hS => ?_)
    obtain ⟨vb24, rfl, hM⟩ := hZ
    replace hM := hW.left (X := [(a20, sO va21), (va21, sV cy s18)]) (T := (sB cy a23 vb24 16 (0 : Int32) ([] : List Nat))) hM
    replace hM : hW D cy ad b μ (lws cy ad la ν) ([(a20, sO va21), (va21, sV cy s18)] ++ sB cy a23 vb24 16 (0 : Int32) ([] : List Nat)) H := hM
    refine lv_aload_n hx hb dX8_init_237 rfl (lv_at hl 1 rfl) ?_
    obtain ⟨c25, h⟩ := gchk_e h
    obtain ⟨s29, hs29, h⟩ := gnm h
    replace hM := hW.right (X := [(a20, sO va21), (va21, sV cy s18)]) (T := (sB cy a23 vb24 16 (0 : Int32) ([] : List Nat))) hM
    refine h_callV (As := [.ref a20]) (rest := []) hx hb (hml.trans hl.1.symm) hown E hM hS xy_J4_append_15ec4 kw_581 (c_appS (Or.inr ⟨List.mem_append_right _ (List.mem_of_getElem? (i := 0) rfl), List.mem_append_right _ (List.mem_of_getElem? (i := 1) rfl)⟩) c25 (show ([] : List Nat).length ≤ 16 by decide) (show 16 ≤ 2056 by decide)) (ht_m List.mem_cons_self) gC_J4.1 rfl rfl (Nat.le_of_ble_eq_true rfl) ⟨(Nat.le_of_ble_eq_true rfl), (Nat.le_of_ble_eq_true rfl)⟩ ⟨(show _ ≤ 1876 by omega), (show _ ≤ 2285440 by omega)⟩ dX8_init_238 (fun rv H locs hZ hS => ?_)
    obtain ⟨vb26, w27, rfl, he28, hM⟩ := hZ
    rw [← hs29] at hM he28
    replace hM := hW.left (X := [(a20, sO va21), (va21, sV cy s18)]) hM
    replace hM : hW D cy ad b μ (lws cy ad la ν) ([(a20, sO va21), (va21, sV cy s18)] ++ sB cy a23 vb26 w27 (0 : Int32) s29) H := hM
    refine va_ldcS hx hb hown (E.2.2.2.2.2.2.2.2.2.2.2.1 2 (by decide)) dX8_init_241 ?_
    obtain ⟨c30, h⟩ := gchk_e h
    obtain ⟨s34, hs34, h⟩ := gnm h
    replace hM := hW.right (X := [(a20, sO va21), (va21, sV cy s18)]) (T := (sB cy a23 vb26 w27 (0 : Int32) s29)) hM
    refine h_callV (As := [.ref (ad (470 + 2))]) (rest := []) hx hb (hml.trans hl.1.symm) hown E hM hS xy_J4_append_15ec4 kw_581 (c_appS (sSrc_k (by decide : 2 < 9)) c30 he28.1 he28.2) (ht_m List.mem_cons_self) gC_J4.1 rfl rfl (Nat.le_of_ble_eq_true rfl) ⟨(Nat.le_of_ble_eq_true rfl), (Nat.le_of_ble_eq_true rfl)⟩ ⟨(show _ ≤ 1876 by omega), (show _ ≤ 2285440 by omega)⟩ dX8_init_243 (fun rv H locs hZ hS => ?_)
    obtain ⟨vb31, w32, rfl, he33, hM⟩ := hZ
    rw [← hs34] at hM he33
    replace hM := hW.left (X := [(a20, sO va21), (va21, sV cy s18)]) hM
    replace hM : hW D cy ad b μ (lws cy ad la ν) ([(a20, sO va21), (va21, sV cy s18)] ++ sB cy a23 vb31 w32 (0 : Int32) s34) H := hM
    refine lv_bipush (v := (97 : Int32)) hx hb dX8_init_246 (by decide) ?_
    refine lv_iload_n hx hb dX8_init_248 rfl (lv_at hl 0 rfl) ?_
    refine lv_iadd hx hb dX8_init_249 ?_
    obtain ⟨c35, h⟩ := gchk_e h
    refine lv_i2c (v := ((97 : Int32) + (0 : Int32))) hx hb dX8_init_250 (x_i2c c35) ?_
    obtain ⟨c36, h⟩ := gchk_e h
    obtain ⟨s40, hs40, h⟩ := gnm h
    replace hM := hW.right (X := [(a20, sO va21), (va21, sV cy s18)]) (T := (sB cy a23 vb31 w32 (0 : Int32) s34)) hM
    refine h_callV (As := [.int ((97 : Int32) + (0 : Int32))]) (rest := []) hx hb (hml.trans hl.1.symm) hown E hM hS xy_J4_append_cf468 kw_786 (by have h9 := c_appC (l := l) (D := D) (cy := cy) (ad := ad) (b := b) (μ := μ) (P := ((lws cy ad la ν) ++ [(a20, sO va21), (va21, sV cy s18)])) (ba := a23) (vb := vb31) (w := w32) (ml := 0) (U := s34) c36.1.2 c36.2 he33.1 he33.2; rwa [← gIn_e c36.1] at h9) (ht_m List.mem_cons_self) gC_J4.1 rfl rfl (Nat.le_of_ble_eq_true rfl) ⟨(Nat.le_of_ble_eq_true rfl), (Nat.le_of_ble_eq_true rfl)⟩ ⟨(show _ ≤ 1876 by omega), (show _ ≤ 2285440 by omega)⟩ dX8_init_251 (fun rv H locs hZ hS => ?_)
    obtain ⟨vb37, w38, rfl, he39, hM⟩ := hZ
    rw [← hs40] at hM he39
    replace hM := hW.left (X := [(a20, sO va21), (va21, sV cy s18)]) hM
    replace hM : hW D cy ad b μ (lws cy ad la ν) ([(a20, sO va21), (va21, sV cy s18)] ++ sB cy a23 vb37 w38 (0 : Int32) s40) H := hM
    refine va_ldcS hx hb hown (E.2.2.2.2.2.2.2.2.2.2.2.1 3 (by decide)) dX8_init_254 ?_
    obtain ⟨c41, h⟩ := gchk_e h
    obtain ⟨s45, hs45, h⟩ := gnm h
    replace hM := hW.right (X := [(a20, sO va21), (va21, sV cy s18)]) (T := (sB cy a23 vb37 w38 (0 : Int32) s40)) hM
    refine h_callV (As := [.ref (ad (470 + 3))]) (rest := []) hx hb (hml.trans hl.1.symm) hown E hM hS xy_J4_append_15ec4 kw_581 (c_appS (sSrc_k (by decide : 3 < 9)) c41 he39.1 he39.2) (ht_m List.mem_cons_self) gC_J4.1 rfl rfl (Nat.le_of_ble_eq_true rfl) ⟨(Nat.le_of_ble_eq_true rfl), (Nat.le_of_ble_eq_true rfl)⟩ ⟨(show _ ≤ 1876 by omega), (show _ ≤ 2285440 by omega)⟩ dX8_init_256 (fun rv H locs hZ hS => ?_)
    obtain ⟨vb42, w43, rfl, he44, hM⟩ := hZ
    rw [← hs45] at hM he44
    replace hM := hW.left (X := [(a20, sO va21), (va21, sV cy s18)]) hM
    replace hM : hW D cy ad b μ (lws cy ad la ν) ([(a20, sO va21), (va21, sV cy s18)] ++ sB cy a23 vb42 w43 (0 : Int32) s45) H := hM
    refine lv_aload_n hx hb dX8_init_259 rfl (lv_at hl 2 rfl) ?_
    refine h_get hx hb hown E hM (hp_m hY.n0) gC_X8 3 (by decide) (v := .ref (la 1 0)) rfl kw_1027 dX8_init_260 ?_
    refine lv_iload_n hx hb dX8_init_263 rfl (lv_at hl 0 rfl) ?_
    refine l_iald hx hb E hM (hp_m hY.n1) (⟨by decide, by decide⟩ : gIn (0 : Int32) 2) (v := (gi ν 1 0)) (congrArg (ν.1 1) (by decide : (0 : Int32).toNatClampNeg = 0)) dX8_init_264 ?_
    refine va_mabs hx hb (hml.trans hl.1.symm) hown (E.kw kw_809) (E.kw kw_810) (E.kw kw_67) (E.kw kw_811) (Nat.le_of_ble_eq_true rfl) (Nat.le_of_ble_eq_true rfl) (show _ ≤ 1876 by omega) (show _ ≤ 2285440 by omega) dX8_init_265 ?_
    obtain ⟨c47, h⟩ := gchk_e h
    obtain ⟨s51, hs51, h⟩ := gnm h
    replace hM := hW.right (X := [(a20, sO va21), (va21, sV cy s18)]) (T := (sB cy a23 vb42 w43 (0 : Int32) s45)) hM
    refine h_callV (As := [.int (iabs (gi ν 1 0))]) (rest := []) hx hb (hml.trans hl.1.symm) hown E hM hS xy_J4_append_bf812 kw_699 (by have h9 := c_appI (l := l) (D := D) (cy := cy) (ad := ad) (b := b) (μ := μ) (P := ((lws cy ad la ν) ++ [(a20, sO va21), (va21, sV cy s18)])) (ba := a23) (vb := vb42) (w := w43) (ml := 0) (U := s45) c47.1.2 c47.2 he44.1 he44.2; rwa [← gIn_e c47.1] at h9) (ht_m List.mem_cons_self) gC_J4.1 rfl rfl (Nat.le_of_ble_eq_true rfl) ⟨(Nat.le_of_ble_eq_true rfl), (Nat.le_of_ble_eq_true rfl)⟩ ⟨(show _ ≤ 1876 by omega), (show _ ≤ 2285440 by omega)⟩ dX8_init_268 (fun rv H locs hZ hS => ?_)
    obtain ⟨vb48, w49, rfl, he50, hM⟩ := hZ
    rw [← hs51] at hM he50
    replace hM := hW.left (X := [(a20, sO va21), (va21, sV cy s18)]) hM
    replace hM : hW D cy ad b μ (lws cy ad la ν) ([(a20, sO va21), (va21, sV cy s18)] ++ sB cy a23 vb48 w49 (0 : Int32) s51) H := hM
    refine lv_aload_n hx hb dX8_init_271 rfl (lv_at hl 2 rfl) ?_
    refine h_get hx hb hown E hM (hp_m hY.n0) gC_X8 3 (by decide) (v := .ref (la 1 0)) rfl kw_1027 dX8_init_272 ?_
    refine lv_iload_n hx hb dX8_init_275 rfl (lv_at hl 0 rfl) ?_
    refine l_iald hx hb E hM (hp_m hY.n1) (⟨by decide, by decide⟩ : gIn (0 : Int32) 2) (v := (gi ν 1 0)) (congrArg (ν.1 1) (by decide : (0 : Int32).toNatClampNeg = 0)) dX8_init_276 ?_
    refine lv_if_ge (tgt := 285) hx hb dX8_init_277 (by decide) (fun c53 => ?_) (fun c53 => ?_)
    · replace h := gif_t c53 h
      refine va_ldcS hx hb hown (E.2.2.2.2.2.2.2.2.2.2.2.1 1 (by decide)) dX8_init_285 ?_
      obtain ⟨c54, h⟩ := gchk_e h
      obtain ⟨s58, hs58, h⟩ := gnm h
      replace hM := hW.right (X := [(a20, sO va21), (va21, sV cy s18)]) (T := (sB cy a23 vb48 w49 (0 : Int32) s51)) hM
      refine h_callV (As := [.ref (ad (470 + 1))]) (rest := []) hx hb (hml.trans hl.1.symm) hown E hM hS xy_J4_append_15ec4 kw_581 (c_appS (sSrc_k (by decide : 1 < 9)) c54 he50.1 he50.2) (ht_m List.mem_cons_self) gC_J4.1 rfl rfl (Nat.le_of_ble_eq_true rfl) ⟨(Nat.le_of_ble_eq_true rfl), (Nat.le_of_ble_eq_true rfl)⟩ ⟨(show _ ≤ 1876 by omega), (show _ ≤ 2285440 by omega)⟩ dX8_init_287 (fun rv H locs hZ hS => ?_)
      obtain ⟨vb55, w56, rfl, he57, hM⟩ := hZ
      rw [← hs58] at hM he57
      replace hM := hW.left (X := [(a20, sO va21), (va21, sV cy s18)]) hM
      replace hM : hW D cy ad b μ (lws cy ad la ν) ([(a20, sO va21), (va21, sV cy s18)] ++ sB cy a23 vb55 w56 (0 : Int32) s58) H := hM
      replace hM := hW.right (X := [(a20, sO va21), (va21, sV cy s18)]) (T := (sB cy a23 vb55 w56 (0 : Int32) s58)) hM
      refine h_callV (As := []) (rest := []) hx hb (hml.trans hl.1.symm) hown E hM hS xy_J4_toString_0e30d kw_725 (c_toS he57.1 he57.2) (ht_m List.mem_cons_self) gC_J4.1 rfl rfl (Nat.le_of_ble_eq_true rfl) ⟨(Nat.le_of_ble_eq_true rfl), (Nat.le_of_ble_eq_true rfl)⟩ ⟨(show _ ≤ 1876 by omega), (show _ ≤ 2285440 by omega)⟩ dX8_init_290 (fun rv H locs hZ hS => ?_)
      obtain ⟨a60, va61, rfl, hM⟩ := hZ
      replace hM := hW.left (X := [(a20, sO va21), (va21, sV cy s18)]) hM
      replace hM := hW.cutM (A := [(a20, sO va21), (va21, sV cy s18)]) hM
      replace hM : hW D cy ad b μ (lws cy ad la ν) [(a20, sO va21), (va21, sV cy s18), (a60, sO va61), (va61, sV cy s58)] H := hM
      refine lv_astore_n (lv' := [(2, .ref a60), (3, .int (0 : Int32)), (0, .ref (la 0 0)), (1, .ref (ad 465))]) hx hb dX8_init_293 rfl hl (by decide) rfl (fun ls hl => ?_)
      refine lv_iinc (v := (1 : Int32)) (lv' := [(3, .int (1 : Int32)), (2, .ref a60), (0, .ref (la 0 0)), (1, .ref (ad 465))]) hx hb dX8_init_294 hl (k := 1) rfl (by decide) (by decide) rfl (fun ls hl => ?_)
      refine lv_goto (tgt := 225) hx hb dX8_init_297 (by decide) ?_
      replace hM := hW.cut0 (B := [(a20, sO va21), (va21, sV cy s18)]) (C := [(a60, sO va61), (va61, sV cy s58)]) hM
      replace hM : hW D cy ad b μ (lws cy ad la ν) [(a60, sO va61), (va61, sV cy s58)] H := hM
      exact wj_Ln_225_1 h F E hoo hs kz (by omega) (by first | (simp only [Nat.add_assoc, Nat.reduceAdd]; exact le_big hsl rfl) | exact le_big hsl rfl) hM hS (lv_sub hl [2, 3, 1, 0] rfl)
    · replace h := gif_f c53 h
      refine va_ldcS hx hb hown (E.2.2.2.2.2.2.2.2.2.2.2.1 4 (by decide)) dX8_init_280 ?_
      refine lv_goto (tgt := 287) hx hb dX8_init_282 (by decide) ?_
      obtain ⟨c268, h⟩ := gchk_e h
      obtain ⟨s272, hs272, h⟩ := gnm h
      replace hM := hW.right (X := [(a20, sO va21), (va21, sV cy s18)]) (T := (sB cy a23 vb48 w49 (0 : Int32) s51)) hM
      refine h_callV (As := [.ref (ad (470 + 4))]) (rest := []) hx hb (hml.trans hl.1.symm) hown E hM hS xy_J4_append_15ec4 kw_581 (c_appS (sSrc_k (by decide : 4 < 9)) c268 he50.1 he50.2) (ht_m List.mem_cons_self) gC_J4.1 rfl rfl (Nat.le_of_ble_eq_true rfl) ⟨(Nat.le_of_ble_eq_true rfl), (Nat.le_of_ble_eq_true rfl)⟩ ⟨(show _ ≤ 1876 by omega), (show _ ≤ 2285440 by omega)⟩ dX8_init_287 (fun rv H locs hZ hS => ?_)
      obtain ⟨vb269, w270, rfl, he271, hM⟩ := hZ
      rw [← hs272] at hM he271
      replace hM := hW.left (X := [(a20, sO va21), (va21, sV cy s18)]) hM
      replace hM : hW D cy ad b μ (lws cy ad la ν) ([(a20, sO va21), (va21, sV cy s18)] ++ sB cy a23 vb269 w270 (0 : Int32) s272) H := hM
      replace hM := hW.right (X := [(a20, sO va21), (va21, sV cy s18)]) (T := (sB cy a23 vb269 w270 (0 : Int32) s272)) hM
      refine h_callV (As := []) (rest := []) hx hb (hml.trans hl.1.symm) hown E hM hS xy_J4_toString_0e30d kw_725 (c_toS he271.1 he271.2) (ht_m List.mem_cons_self) gC_J4.1 rfl rfl (Nat.le_of_ble_eq_true rfl) ⟨(Nat.le_of_ble_eq_true rfl), (Nat.le_of_ble_eq_true rfl)⟩ ⟨(show _ ≤ 1876 by omega), (show _ ≤ 2285440 by omega)⟩ dX8_init_290 (fun rv H locs hZ hS => ?_)
      obtain ⟨a274, va275, rfl, hM⟩ := hZ
      replace hM := hW.left (X := [(a20, sO va21), (va21, sV cy s18)]) hM
      replace hM := hW.cutM (A := [(a20, sO va21), (va21, sV cy s18)]) hM
      replace hM : hW D cy ad b μ (lws cy ad la ν) [(a20, sO va21), (va21, sV cy s18), (a274, sO va275), (va275, sV cy s272)] H := hM
      refine lv_astore_n (lv' := [(2, .ref a274), (3, .int (0 : Int32)), (0, .ref (la 0 0)), (1, .ref (ad 465))]) hx hb dX8_init_293 rfl hl (by decide) rfl (fun ls hl => ?_)
      refine lv_iinc (v := (1 : Int32)) (lv' := [(3, .int (1 : Int32)), (2, .ref a274), (0, .ref (la 0 0)), (1, .ref (ad 465))]) hx hb dX8_init_294 hl (k := 1) rfl (by decide) (by decide) rfl (fun ls hl => ?_)
      refine lv_goto (tgt := 225) hx hb dX8_init_297 (by decide) ?_
      replace hM := hW.cut0 (B := [(a20, sO va21), (va21, sV cy s18)]) (C := [(a274, sO va275), (va275, sV cy s272)]) hM
      replace hM : hW D cy ad b μ (lws cy ad la ν) [(a274, sO va275), (va275, sV cy s272)] H := hM
      exact wj_Ln_225_1 h F E hoo hs kz (by omega) (by first | (simp only [Nat.add_assoc, Nat.reduceAdd]; exact le_big hsl rfl) | exact le_big hsl rfl) hM hS (lv_sub hl [2, 3, 1, 0] rfl)

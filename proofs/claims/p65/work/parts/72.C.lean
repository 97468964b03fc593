/-! the script; calls of the law's static methods from Net -/
theorem hE.scr {l : Launch} {D : va_G} {cy : Nat → ClassId} {ad : Nat → Nat} {b : Nat} {s : State} (E : hE l D cy ad b s) : va_X (ad 465) (ad 466) (fun j => Int32.ofNat (ad (10000 + j))) s s.heap ∧ ad 465 < s.heap.size ∧ ¬ hA b (ad 465) ∧ ad 466 < 2 ^ 31 := by
  obtain ⟨-, -, -, -, -, h6, h7, h8⟩ := E.x
  refine ⟨h6, ?_, (fun q => by have q : b ≤ ad 465 := q; omega), h8⟩
  obtain ⟨scr, hs, -⟩ := h6
  exact (Array.getElem?_eq_some_iff.mp hs).1
def scr (ad : Nat → Nat) (k : Nat) : Int32 := if k < ad 466 then Int32.ofNat (ad (10000 + k)) else 0
theorem scr_at {ad : Nat → Nat} {k : Nat} (h : k < ad 466) (hk : k < 2 ^ 31) : Int32.ofNat (ad (10000 + (nI k).toNatClampNeg)) = scr ad k := by
  rw [nI_clamp hk]
  exact (if_pos h).symm
theorem h_callSN {p : Program} {l : Launch} {e : Env} {R : Room} {s : State} {m : MethodId} {args : Array Value} {below : List Frame} {meth : Method} {c : Code} {H : Heap} {locs : List Loc} {cells slots : Nat} {Q : State → Prop} {cc : ByteArray} {pc : Nat} {ls : Array Slot} {rest : List Value} {D : va_G} {cy : Nat → ClassId} {ad : Nat → Nat} {b : Nat} {μ : gM} {own : String} (hx : p.tables.exec = Jvm.exec) (hb : c.code = cc) (hml : c.maxLocals = ls.size) (hown : s.vm.findClass own = some m.cls) (E : hE l D cy ad b s) {P1 T1 : va_W} (hM : hW D cy ad b μ P1 T1 H) (hS : va_S (hA b) s.heap H locs) {y : MethodName} {bytes : ByteArray} {maxL n idx fr lo mc ms : Nat} {ret : Option FieldType} {Z : Option Value → Heap → Prop} {As : List Value} {st : List Value} {host : String} (hy : gYS y bytes maxL ret n) (hl : va_Nw (.methodLinkNest own idx y host) s)
    (hMt : Met l y [.code y bytes maxL ret] ({ frames := fr, cells := mc, slots := ms, locals := lo }) (va_Pc As (hB l D cy ad b μ P1 T1)) (hQ b Z) mc ms (hA b))
    (hn : As.length = n) (hst : st = As.reverse ++ rest) (hroom : (rest.map fun v => v.category).sum ≤ 8) (hR : fr + 1 ≤ R.frames ∧ 8 + (maxL + 11) + lo ≤ R.locals) (hcs : cells + mc ≤ R.cells ∧ slots + ms ≤ R.slots) (hdg : decode cc pc = .ok (.invokestatic idx, 3))
    (kk : ∀ (rv : Option Value) (H1 : Heap) (locs1 : List Loc), Z rv H1 → va_S (hA b) s.heap H1 locs1 → W p l e R s m args below meth c H1 locs1 (cells + mc) (slots + ms) Q (F0 m (pc + 3) ls (rv.toList ++ rest))) : W p l e R s m args below meth c H locs cells slots Q (F0 m pc ls st) := by
  subst hst
  intro T0 hT X
  obtain ⟨y1, y2, y3, y5, y6⟩ := hy
  have cb : va_CN R s args own idx y host bytes maxL ret [.code y bytes maxL ret] ({ frames := fr, cells := mc, slots := ms, locals := lo }) mc ms n :=
    ⟨⟨rfl, rfl, hR.1, hR.2, (fun w hw a' U hW => by rw [List.mem_singleton.mp hw]; exact word_at hW (good_of_word y1.2) (E.kw y1 (a := #[]))), List.mem_cons_self⟩, E.kw y1, E.kw y2, y5, (fun sig h => by rw [h] at y6; exact (Option.some.inj y6).symm), va_Nw.use rfl hl⟩
  obtain ⟨v, st₀, t, T', L9, h0, X', hL, e1, e2, ⟨⟨rv, hv, hZ⟩, hz, hq⟩, st⟩ := va_runSN (As := As) (rest := rest) (own := own) (Ts := []) (nL := ls.size) ⟨hx, hb, hml, hown, fun _ h => nomatch h⟩ hMt ⟨cb, E.kw y3, True.intro⟩ ⟨hB_blind, hB_at E hM hS⟩ (g := F0 m pc ls (As.reverse ++ rest)) rfl hn rfl rfl (lv_room hroom) hdg hcs T0 hT X
  cases hv
  obtain ⟨t2, a1, b1⟩ := kk v t.heap (locs ++ L9) hZ (h_S hS h0 hz hq hL) T' e1 X'
  exact ⟨t2, st t2 a1, b1⟩
/-- the law's cells, lists in the making -/
def lY0 (cy : Nat → ClassId) (ad : Nat → Nat) (la : Nat → Nat → Nat) (ν : gM) (P : va_W) : Prop := (∀ x ∈ lws cy ad la ν, x ∈ P) ∧ lS ν
section LY0
variable {cy : Nat → ClassId} {ad : Nat → Nat} {la : Nat → Nat → Nat} {ν : gM} {P : va_W}
theorem lY0_self (hs : lS ν) : lY0 cy ad la ν (lws cy ad la ν) := ⟨fun _ h => h, hs⟩
theorem lY0.app (h : lY0 cy ad la ν P) (X : va_W) : lY0 cy ad la ν (P ++ X) := ⟨fun x hx => List.mem_append_left _ (h.1 x hx), h.2⟩
theorem lY0.c1 (h : lY0 cy ad la ν P) (k : Nat) (hk : k < 9) (h6 : k ≠ 6) (h7 : k ≠ 7) : lcell cy ad la ν (k, 0) ∈ P := h.1 _ (lws_m (lkeys_mem.mpr (Or.inl ⟨hk, rfl, fun q => absurd q h7⟩)))
theorem lY0.c2 (h : lY0 cy ad la ν P) {k : Nat} (hk : k < lLn ν) : (la 20 k, .inl (cy 0, 2, .inl (ν.1 (20 + k)))) ∈ P := h.1 _ (lws_m (q := (20, k)) (lkeys_mem.mpr (Or.inr (Or.inl ⟨rfl, hk⟩))))
theorem lY0.c4 (h : lY0 cy ad la ν P) {k : Nat} (hk : k < lLs ν) (h0 : lSz ν k ≠ 0) : (la 40 k, .inr (13, [.int (gi ν (40 + k) 0), .ref (la 60 k), .int (nI (lSz ν k))])) ∈ P := by
  have h1 := h.1 _ (lws_m (cy := cy) (ad := ad) (la := la) (q := (40, k)) (lkeys_mem.mpr (Or.inr (Or.inr (Or.inl ⟨Or.inl rfl, hk⟩)))))
  have e6 : lE cy ad la ν (40, k) = .inr (13, [.int (gi ν (40 + k) 0), .ref (la 60 k), .int (nI (lSz ν k))]) := by
    show Sum.inr (13, [Value.int (gi ν (40 + k) 0), .ref (if lSz ν k = 0 then ad 461 else la 60 k), .int (nI (lSz ν k))]) = _
    rw [if_neg h0]
  unfold lcell at h1
  rw [e6] at h1
  exact h1
/-- the list of lists, when there is a list in it -/
theorem lY0.c6 (h : lY0 cy ad la ν P) (h0 : lLs ν ≠ 0) : (la 6 0, .inr (13, [.int (gi ν 6 0), .ref (la 7 0), .int (nI (lLs ν))])) ∈ P ∧ (la 7 0, .inl (cy 4, (gi ν 7 0).toNatClampNeg, .inr (.inr (.inr (.inr (lRf (lLs ν) (la 40))))))) ∈ P := by
  have h1 := h.1 _ (lws_m (cy := cy) (ad := ad) (la := la) (q := (6, 0)) (lkeys_mem.mpr (Or.inl ⟨by decide, rfl, fun q => absurd q (by decide)⟩)))
  have h2 := h.1 _ (lws_m (cy := cy) (ad := ad) (la := la) (q := (7, 0)) (lkeys_mem.mpr (Or.inl ⟨by decide, rfl, fun _ => h0⟩)))
  have e6 : lE cy ad la ν (6, 0) = .inr (13, [.int (gi ν 6 0), .ref (la 7 0), .int (nI (lLs ν))]) := by
    show Sum.inr (13, [Value.int (gi ν 6 0), .ref (if lLs ν = 0 then ad 461 else la 7 0), .int (nI (lLs ν))]) = _
    rw [if_neg h0]
  unfold lcell at h1
  rw [e6] at h1
  exact ⟨h1, h2⟩
end LY0
theorem dL_cell_0 : decode cL_cell 0 = .ok (.iload_n 1, 1) := by decide +kernel
theorem dL_cell_1 : decode cL_cell 1 = .ok (.aload_n 0, 1) := by decide +kernel
theorem dL_cell_2 : decode cL_cell 2 = .ok (.arraylength, 1) := by decide +kernel
theorem dL_cell_3 : decode cL_cell 3 = .ok (.if_icmp .ge 9, 3) := by decide +kernel
theorem dL_cell_6 : decode cL_cell 6 = .ok (.aload_n 0, 1) := by decide +kernel
theorem dL_cell_7 : decode cL_cell 7 = .ok (.iload_n 1, 1) := by decide +kernel
theorem dL_cell_8 : decode cL_cell 8 = .ok (.iaload, 1) := by decide +kernel
theorem dL_cell_9 : decode cL_cell 9 = .ok (.goto 4, 3) := by decide +kernel
theorem dL_cell_12 : decode cL_cell 12 = .ok (.iconst 0, 1) := by decide +kernel
theorem dL_cell_13 : decode cL_cell 13 = .ok (.ireturn, 1) := by decide +kernel
set_option maxHeartbeats 4000000 in
set_option maxRecDepth 100000 in
theorem c_cell1 {l : Launch} {D : va_G} {cy : Nat → ClassId} {ad : Nat → Nat} {b : Nat} {μ : gM} {P : va_W} {k : Nat} (hlt : k < ad 466) : Met l yL_cell [.code yL_cell cL_cell 2 (some .int)] ({ frames := 0, cells := 0, slots := 0, locals := 0 } : Room) (va_Pc [.ref (ad 465), .int (nI k)] (hB l D cy ad b μ P [])) (hQ b (fun rv H => rv = some (.int (scr ad k)) ∧ hW D cy ad b μ P [] H)) 0 0 (hA b) := by
  refine Met.ofW (cc := cL_cell) (maxL := 2) (ret := (some .int)) (by decide +kernel) rfl ?_
  intro p e s m args below meth c s₁ B hml0 hv
  obtain ⟨rfl, E, hM⟩ := hv
  obtain ⟨hx, hb, hml, hown, hlocks, hr⟩ := (gF_of B hml0 : gF p s m meth c cL_cell RL 2 (some .int))
  have hS : va_S (hA b) s.heap s.heap [] := va_S.rf
  have hl := lv_entry ([.ref (ad 465), .int (nI k)]) (n := 2) (Nat.le_of_ble_eq_true rfl)
  rw [lg_entry_eq]
  generalize (lg_sl ([.ref (ad 465), .int (nI k)]) ++ List.replicate (2 - (lg_sl ([.ref (ad 465), .int (nI k)])).length) Slot.unset).toArray = ls at hl ⊢
  have hl : lv_has ls 2 [(0, .ref (ad 465)), (1, .int (nI k))] := hl
  refine lv_iload_n hx hb dL_cell_0 rfl (lv_at hl 1 rfl) ?_
  refine lv_aload_n hx hb dL_cell_1 rfl (lv_at hl 0 rfl) ?_
  refine va_slen hx hb E.scr.1 E.scr.2.1 E.scr.2.2.1 hS dL_cell_2 ?_
  refine lv_icmp_ge (tgt := 12) hx hb dL_cell_3 (by decide) (fun c1 => ?_) (fun c1 => ?_)
  · exact absurd c1 (nI_ge hlt E.scr.2.2.2)
  · refine lv_aload_n hx hb dL_cell_6 rfl (lv_at hl 0 rfl) ?_
    refine lv_iload_n hx hb dL_cell_7 rfl (lv_at hl 1 rfl) ?_
    refine va_sld hx hb E.scr.1 E.scr.2.1 E.scr.2.2.1 hS (i := nI k) (gIn_v (x_in hlt E.scr.2.2.2)) dL_cell_8 ?_
    rw [scr_at hlt (Nat.lt_trans hlt E.scr.2.2.2)]
    refine lv_goto (tgt := 13) hx hb dL_cell_9 (by decide) ?_
    exact h_iret hx hb hr hlocks (Nat.le_of_ble_eq_true rfl) (Nat.le_of_ble_eq_true rfl) ⟨rfl, hM⟩ hS dL_cell_13
set_option maxHeartbeats 4000000 in
set_option maxRecDepth 100000 in
theorem c_cell0 {l : Launch} {D : va_G} {cy : Nat → ClassId} {ad : Nat → Nat} {b : Nat} {μ : gM} {P : va_W} {k : Nat} (hge : ad 466 ≤ k) (hk : k < 2 ^ 31) : Met l yL_cell [.code yL_cell cL_cell 2 (some .int)] ({ frames := 0, cells := 0, slots := 0, locals := 0 } : Room) (va_Pc [.ref (ad 465), .int (nI k)] (hB l D cy ad b μ P [])) (hQ b (fun rv H => rv = some (.int (scr ad k)) ∧ hW D cy ad b μ P [] H)) 0 0 (hA b) := by
  refine Met.ofW (cc := cL_cell) (maxL := 2) (ret := (some .int)) (by decide +kernel) rfl ?_
  intro p e s m args below meth c s₁ B hml0 hv
  obtain ⟨rfl, E, hM⟩ := hv
  obtain ⟨hx, hb, hml, hown, hlocks, hr⟩ := (gF_of B hml0 : gF p s m meth c cL_cell RL 2 (some .int))
  have hS : va_S (hA b) s.heap s.heap [] := va_S.rf
  have hl := lv_entry ([.ref (ad 465), .int (nI k)]) (n := 2) (Nat.le_of_ble_eq_true rfl)
  rw [lg_entry_eq]
  generalize (lg_sl ([.ref (ad 465), .int (nI k)]) ++ List.replicate (2 - (lg_sl ([.ref (ad 465), .int (nI k)])).length) Slot.unset).toArray = ls at hl ⊢
  have hl : lv_has ls 2 [(0, .ref (ad 465)), (1, .int (nI k))] := hl
  refine lv_iload_n hx hb dL_cell_0 rfl (lv_at hl 1 rfl) ?_
  refine lv_aload_n hx hb dL_cell_1 rfl (lv_at hl 0 rfl) ?_
  refine va_slen hx hb E.scr.1 E.scr.2.1 E.scr.2.2.1 hS dL_cell_2 ?_
  refine lv_icmp_ge (tgt := 12) hx hb dL_cell_3 (by decide) (fun c1 => ?_) (fun c1 => ?_)
  · refine lv_iconst (v := (0 : Int32)) hx hb dL_cell_12 (by decide) ?_
    exact h_iret hx hb hr hlocks (Nat.le_of_ble_eq_true rfl) (Nat.le_of_ble_eq_true rfl) ⟨congrArg (fun x => some (Value.int x)) (if_neg (by omega)).symm, hM⟩ hS dL_cell_13
  · exact absurd (nI_le hge hk) c1
theorem c_cell {l : Launch} {D : va_G} {cy : Nat → ClassId} {ad : Nat → Nat} {b : Nat} {μ : gM} {P : va_W} {k : Nat} (hk : k < 2 ^ 31) : Met l yL_cell [.code yL_cell cL_cell 2 (some .int)] ({ frames := 0, cells := 0, slots := 0, locals := 0 } : Room) (va_Pc [.ref (ad 465), .int (nI k)] (hB l D cy ad b μ P [])) (hQ b (fun rv H => rv = some (.int (scr ad k)) ∧ hW D cy ad b μ P [] H)) 0 0 (hA b) := by
  by_cases h : k < ad 466
  · exact c_cell1 h
  · exact c_cell0 (by omega) hk

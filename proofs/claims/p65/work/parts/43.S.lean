/-! texts: Strings, builders; a text is a list of letters -/
def sby (S : List Nat) : Nat → Int32 := fun j => sb_b (S.getD j 0)
def sTx (i : Nat) : List Nat := ((sAt i).2.2).map Int32.toNatClampNeg
def sO (va : Nat) : va_E := .inr (9, [.ref va, .int (0 : Int32), .int (0 : Int32), .int (0 : Int32)])
def sV (cy : Nat → ClassId) (S : List Nat) : va_E := .inl (cy 2, S.length, .inl (sby S))
/-- a String with the text S at sa, its bytes at va: a constant of the law's, or one that was made -/
def sSrc (cy : Nat → ClassId) (ad : Nat → Nat) (P : va_W) (sa va : Nat) (S : List Nat) : Prop :=
  (∃ i, i < 9 ∧ sa = ad (470 + i) ∧ va = ad (480 + i) ∧ S = sTx i) ∨ ((sa, .inr (9, [.ref va, .int (0 : Int32), .int (0 : Int32), .int (0 : Int32)])) ∈ P ∧ (va, .inl (cy 2, S.length, .inl (sby S))) ∈ P)
/-- a builder: count letters of its bytes are the text, the rest zero -/
def sB (cy : Nat → ClassId) (ba va m : Nat) (ml : Int32) (S : List Nat) : va_W := [(ba, .inr (10, [.ref va, .int (0 : Int32), .int ml, .int (nI S.length)])), (va, .inl (cy 2, m, .inl (sby S)))]
theorem sb_b0 : sb_b 0 = 0 := by decide
theorem sby_nil : sby [] = fun _ => 0 := by
  funext j
  show sb_b 0 = 0
  exact sb_b0
theorem sby_out {S : List Nat} {j : Nat} (h : S.length ≤ j) : sby S j = 0 := by
  show sb_b (S.getD j 0) = 0
  rw [List.getD_eq_getElem?_getD, List.getElem?_eq_none h]
  exact sb_b0
theorem sby_l {S U : List Nat} {j : Nat} (h : j < S.length) : sby (S ++ U) j = sby S j := by
  show sb_b ((S ++ U).getD j 0) = sb_b (S.getD j 0)
  rw [List.getD_eq_getElem?_getD, List.getD_eq_getElem?_getD, List.getElem?_append_left h]
theorem sby_r {S U : List Nat} {j : Nat} (h : S.length ≤ j) : sby (S ++ U) j = sby U (j - S.length) := by
  show sb_b ((S ++ U).getD j 0) = sb_b (U.getD (j - S.length) 0)
  rw [List.getD_eq_getElem?_getD, List.getD_eq_getElem?_getD, List.getElem?_append_right h]
theorem sby_app {S U : List Nat} : va_cpy (sby U) (sby S) 0 S.length U.length = sby (S ++ U) := by
  funext j
  by_cases h : S.length ≤ j ∧ j < S.length + U.length
  · rw [pk_cpy_in h.1 h.2, sby_r h.1, Nat.zero_add]
  · by_cases h1 : j < S.length
    · rw [pk_cpy_out (Or.inl h1), sby_l h1]
    · rw [pk_cpy_out (Or.inr (by omega)), sby_out (by omega), sby_out (by rw [List.length_append]; omega)]
theorem sby_cut {S : List Nat} {n : Nat} (h : S.length ≤ n) : va_cpy (sby S) (fun _ => 0) 0 0 n = sby S := by
  funext j
  by_cases h1 : j < n
  · rw [pk_cpy_in (Nat.zero_le j) (by omega)]
    show sby S (0 + (j - 0)) = _
    rw [Nat.zero_add, Nat.sub_zero]
  · rw [pk_cpy_out (Or.inr (by omega)), sby_out (by omega)]
theorem sby_chr {S : List Nat} {c : Nat} : upd (sby S) S.length (sb_b c) = sby (S ++ [c]) := by
  funext j
  show (if j = S.length then sb_b c else sby S j) = _
  by_cases h : j = S.length
  · rw [if_pos h, h, sby_r (Nat.le_refl _), Nat.sub_self]; rfl
  · rw [if_neg h]
    by_cases h1 : j < S.length
    · rw [sby_l h1]
    · rw [sby_out (by omega), sby_out (by rw [List.length_append]; show S.length + 1 ≤ j; omega)]
theorem sTx_by : ∀ i, i < 9 → (fun j => ((sTab.map (fun q => q.2.2)).getD i []).getD j 0) = sby (sTx i) ∧ (sTab.map (fun q => q.2.2.length)).getD i 0 = (sTx i).length := by
  have h0 : ∀ i, i < 9 → ((sTab.map (fun q => q.2.2)).getD i []) = (sTx i).map sb_b ∧ (sTab.map (fun q => q.2.2.length)).getD i 0 = (sTx i).length := by decide +kernel
  intro i hi
  refine ⟨?_, (h0 i hi).2⟩
  funext j
  rw [(h0 i hi).1]
  show ((sTx i).map sb_b).getD j 0 = sb_b ((sTx i).getD j 0)
  rw [List.getD_eq_getElem?_getD, List.getD_eq_getElem?_getD, List.getElem?_map]
  cases (sTx i)[j]? with
  | none => exact sb_b0.symm
  | some x => rfl
section SROWS
variable {p : Program} {l : Launch} {e : Env} {R : Room} {s : State} {m : MethodId} {args : Array Value} {below : List Frame} {meth : Method} {c : Code} {H : Heap} {locs : List Loc} {cells slots : Nat} {Q : State → Prop}
variable {cc : ByteArray} {pc : Nat} {ls : Array Slot} {rest : List Value} {D : va_G} {cy : Nat → ClassId} {ad : Nat → Nat} {b a : Nat} {μ : gM} {P T : va_W} {own : String} {sa va : Nat} {S : List Nat}
theorem sSrc.mono {P1 : va_W} (h : sSrc cy ad P sa va S) (hp : ∀ x ∈ P, x ∈ P1) : sSrc cy ad P1 sa va S := h.imp id (fun q => ⟨hp _ q.1, hp _ q.2⟩)
theorem sSrc.app (h : sSrc cy ad P sa va S) (X : va_W) : sSrc cy ad (P ++ X) sa va S := h.mono (fun _ hx => List.mem_append_left _ hx)
theorem sSrc_k {i : Nat} (hi : i < 9) : sSrc cy ad P (ad (470 + i)) (ad (480 + i)) (sTx i) := Or.inl ⟨i, hi, rfl, rfl, rfl⟩
theorem s_val (hx : p.tables.exec = Jvm.exec) (hb : c.code = cc) (hown : s.vm.findClass own = some m.cls) (E : hE l D cy ad b s) (hM : hW D cy ad b μ P T H) (hS : va_S (hA b) s.heap H locs) (hs : sSrc cy ad P sa va S) {idx : Nat} (hl : gw (.fieldLink own idx "java/lang/String" "value" "[B")) (hdg : decode cc pc = .ok (.getfield idx, 3))
    (kk : W p l e R s m args below meth c H locs cells slots Q (F0 m (pc + 3) ls (.ref va :: rest))) : W p l e R s m args below meth c H locs cells slots Q (F0 m pc ls (.ref sa :: rest)) := by
  rcases hs with ⟨i, hi, rfl, rfl, rfl⟩ | ⟨h1, h2⟩
  · exact vk_getf hx hb (E.2.2.2.2.2.2.2.2.2.2.1.1 i hi).2.2.1 hS hown (E.kw hl) (fun _ h => h) hdg kk
  · exact h_get hx hb hown E hM (hp_m h1) gC_J0 0 (by decide) (v := .ref va) rfl hl hdg kk
theorem s_cod (hx : p.tables.exec = Jvm.exec) (hb : c.code = cc) (hown : s.vm.findClass own = some m.cls) (E : hE l D cy ad b s) (hM : hW D cy ad b μ P T H) (hS : va_S (hA b) s.heap H locs) (hs : sSrc cy ad P sa va S) {idx : Nat} (hl : gw (.fieldLink own idx "java/lang/String" "coder" "B")) (hdg : decode cc pc = .ok (.getfield idx, 3))
    (kk : W p l e R s m args below meth c H locs cells slots Q (F0 m (pc + 3) ls (.int (0 : Int32) :: rest))) : W p l e R s m args below meth c H locs cells slots Q (F0 m pc ls (.ref sa :: rest)) := by
  rcases hs with ⟨i, hi, rfl, rfl, rfl⟩ | ⟨h1, h2⟩
  · exact vk_getf hx hb (E.2.2.2.2.2.2.2.2.2.2.1.1 i hi).2.1 hS hown (E.kw hl) (fun _ h => h) hdg kk
  · exact h_get hx hb hown E hM (hp_m h1) gC_J0 1 (by decide) (v := .int 0) rfl hl hdg kk
theorem s_len (hx : p.tables.exec = Jvm.exec) (hb : c.code = cc) (E : hE l D cy ad b s) (hM : hW D cy ad b μ P T H) (hS : va_S (hA b) s.heap H locs) (hs : sSrc cy ad P sa va S) (hdg : decode cc pc = .ok (.arraylength, 1))
    (kk : W p l e R s m args below meth c H locs cells slots Q (F0 m (pc + 1) ls (.int (nI S.length) :: rest))) : W p l e R s m args below meth c H locs cells slots Q (F0 m pc ls (.ref va :: rest)) := by
  rcases hs with ⟨i, hi, rfl, rfl, rfl⟩ | ⟨h1, h2⟩
  · exact va_tlen hx hb (E.2.2.2.2.2.2.2.2.2.2.1.1 i hi).2.2.2 hS (by rw [(sTx_by i hi).2]; rfl) hdg kk
  · exact h_alen hx hb E hM 2 (ty := .byte) (hp_m h2) rfl (v := nI S.length) rfl hdg kk
theorem s_recv (E : hE l D cy ad b s) (hM : hW D cy ad b μ P T H) (hS : va_S (hA b) s.heap H locs) (hs : sSrc cy ad P sa va S) : ∃ cellB : Cell, H[sa]? = some cellB ∧ cellB.vm.isStatics = false ∧ s.vm.findClass "java/lang/String" = some cellB.cls := by
  rcases hs with ⟨i, hi, rfl, rfl, rfl⟩ | ⟨h1, h2⟩
  · exact vk_recv (i := i) (adK := fun i => ad (470 + i)) E.2.2.2.2.2.2.2.2.2.2.1 hi hS
  · obtain ⟨k, ha⟩ := List.getElem?_of_mem (hp_m (cy := cy) (ad := ad) (μ := μ) (T := T) h1)
    exact va_recv E.1.1 hM.1 gC_J0.1 ha
/-- a method of a String's -/
theorem h_callK (hx : p.tables.exec = Jvm.exec) (hb : c.code = cc) (hml : c.maxLocals = ls.size) (hown : s.vm.findClass own = some m.cls) (E : hE l D cy ad b s) {P1 T1 : va_W} (hM : hW D cy ad b μ P1 T1 H) (hS : va_S (hA b) s.heap H locs) (hs : sSrc cy ad P1 sa va S) {y : MethodName} {bytes : ByteArray} {maxL n idx fr lo mc ms : Nat} {ret : Option FieldType} {Z : Option Value → Heap → Prop} {As : List Value} {st : List Value} (hcl : y.cls = "java/lang/String") (hy : gYV y bytes maxL ret n) (hl : gw (.methodLink own idx y))
    (hMt : Met l y [.code y bytes maxL ret] ({ frames := fr, cells := mc, slots := ms, locals := lo }) (va_Pc (.ref sa :: As) (hB l D cy ad b μ P1 T1)) (hQ b Z) mc ms (hA b))
    (hn : As.length = n) (hst : st = As.reverse ++ .ref sa :: rest) (hroom : (rest.map fun v => v.category).sum ≤ 8) (hR : fr + 1 ≤ R.frames ∧ 8 + (maxL + 11) + lo ≤ R.locals) (hcs : cells + mc ≤ R.cells ∧ slots + ms ≤ R.slots) (hdg : decode cc pc = .ok (.invokevirtual idx, 3))
    (kk : ∀ (rv : Option Value) (H1 : Heap) (locs1 : List Loc), Z rv H1 → va_S (hA b) s.heap H1 locs1 → W p l e R s m args below meth c H1 locs1 (cells + mc) (slots + ms) Q (F0 m (pc + 3) ls (rv.toList ++ rest))) : W p l e R s m args below meth c H locs cells slots Q (F0 m pc ls st) := by
  subst hst
  intro T0 hT X
  obtain ⟨y1, y2, y3, y4, y5, y6⟩ := hy
  have cb : CallB R s args own idx y bytes maxL ret [.code y bytes maxL ret] ({ frames := fr, cells := mc, slots := ms, locals := lo }) mc ms n :=
    ⟨rfl, rfl, hR.1, hR.2, (fun w hw a' U hW => by rw [List.mem_singleton.mp hw]; exact word_at hW (good_of_word y1.2) (E.kw y1 (a := #[]))), List.mem_cons_self, E.kw y1, E.kw y2, y5, (fun sig h => by rw [h] at y6; exact (Option.some.inj y6).symm), E.kw hl⟩
  obtain ⟨cellB, g1, g2, g3⟩ := s_recv E hM hS hs
  obtain ⟨v, st₀, t, T', L9, h0, X', hL, e1, e2, ⟨⟨rv, hv, hZ⟩, hz, hq⟩, st⟩ := va_runV (As := As) (rest := rest) (b := sa) (C := y.cls) (own := own) (Ts := []) (nL := ls.size) ⟨hx, hb, hml, hown, fun _ h => nomatch h⟩ hMt ⟨cb, E.kw y3, E.kw y4⟩ ⟨hB_blind, ⟨cellB, g1, g2, by rw [hcl]; exact g3⟩, hB_at E hM hS⟩ (g := F0 m pc ls (As.reverse ++ .ref sa :: rest)) rfl hn rfl rfl (lv_room hroom) hdg hcs T0 hT X
  cases hv
  obtain ⟨t2, a1, b1⟩ := kk v t.heap (locs ++ L9) hZ (h_S hS h0 hz hq hL) T' e1 X'
  exact ⟨t2, st t2 a1, b1⟩
/-- a method of the upper class on an object of a lower one -/
def gYU (C : String) (x y : MethodName) (cc : ByteArray) (nL : Nat) (ret : Option FieldType) (n : Nat) : Prop := gw (.code y cc nL ret) ∧ gw (.initialized y.cls) ∧ gw (.instanceMethod y) ∧ (x.cls ≠ "java/lang/invoke/MethodHandle" ∧ x.cls ≠ "java/lang/invoke/VarHandle") ∧ (parseMethodDescriptor x.desc).map (fun d => d.parameters.length) = some n ∧ gw (.sameMethod x.cls x.cls x.name x.desc) ∧ (∃ b0 m0 r0, gw (.instanceMethod x) ∧ gw (.code x b0 m0 r0))
theorem h_callU (hx : p.tables.exec = Jvm.exec) (hb : c.code = cc) (hml : c.maxLocals = ls.size) (hown : s.vm.findClass own = some m.cls) (E : hE l D cy ad b s) {P1 T1 : va_W} (hM : hW D cy ad b μ P1 T1 H) (hS : va_S (hA b) s.heap H locs) {C : String} {x y : MethodName} {bytes : ByteArray} {maxL n idx ci N fr lo mc ms : Nat} {ret : Option FieldType} {Z : Option Value → Heap → Prop} {As : List Value} {fs : List Value} {T0 : u_T} {st : List Value} (hy : gYU C x y bytes maxL ret n) (hl : gw (.methodLink own idx x)) (hsel : (Cond.selects C x y).before args s = true)
    (hMt : Met l y [.code y bytes maxL ret] ({ frames := fr, cells := mc, slots := ms, locals := lo }) (va_Pc (.ref a :: As) (hB l D cy ad b μ P1 T1)) (hQ b Z) mc ms (hA b))
    (ha : (a, .inr (ci, fs)) ∈ hws cy ad μ P1 T1) (hC : vwCl[ci]? = some (C, T0, N)) (hn : As.length = n) (hst : st = As.reverse ++ .ref a :: rest) (hroom : (rest.map fun v => v.category).sum ≤ 8) (hR : fr + 1 ≤ R.frames ∧ 8 + (maxL + 11) + lo ≤ R.locals) (hcs : cells + mc ≤ R.cells ∧ slots + ms ≤ R.slots) (hdg : decode cc pc = .ok (.invokevirtual idx, 3))
    (kk : ∀ (rv : Option Value) (H1 : Heap) (locs1 : List Loc), Z rv H1 → va_S (hA b) s.heap H1 locs1 → W p l e R s m args below meth c H1 locs1 (cells + mc) (slots + ms) Q (F0 m (pc + 3) ls (rv.toList ++ rest))) : W p l e R s m args below meth c H locs cells slots Q (F0 m pc ls st) := by
  obtain ⟨k, ha⟩ := List.getElem?_of_mem ha
  subst hst
  intro T0 hT X
  obtain ⟨y1, y2, y3, y5, y6, y7, b0, m0, r0, y8, y9⟩ := hy
  have cb : va_CU R s args own C x.cls idx x y bytes maxL ret [.code y bytes maxL ret] ({ frames := fr, cells := mc, slots := ms, locals := lo }) mc ms n :=
    ⟨⟨rfl, rfl, hR.1, hR.2, (fun w hw a' U hW => by rw [List.mem_singleton.mp hw]; exact word_at hW (good_of_word y1.2) (E.kw y1 (a := #[]))), List.mem_cons_self⟩, E.kw y1, E.kw y2, y5, (fun sig h => by rw [h] at y6; exact (Option.some.inj y6).symm), E.kw hl, E.kw y7, va_Decl.of (E.kw y8 (a := #[])) (E.kw y9 (a := #[])), hsel, E.kw y3⟩
  obtain ⟨cellB, g1, g2, g3⟩ := va_recv E.1.1 hM.1 hC ha
  obtain ⟨v, st₀, t, T', L9, h0, X', hL, e1, e2, ⟨⟨rv, hv, hZ⟩, hz, hq⟩, st⟩ := va_runU (As := As) (rest := rest) (b := a) (C := C) (own := own) (Ts := []) (nL := ls.size) ⟨hx, hb, hml, hown, fun _ h => nomatch h⟩ hMt cb ⟨hB_blind, ⟨cellB, g1, g2, g3⟩, hB_at E hM hS⟩ (g := F0 m pc ls (As.reverse ++ .ref a :: rest)) rfl hn rfl rfl (lv_room hroom) hdg hcs T0 hT X
  cases hv
  obtain ⟨t2, a1, b1⟩ := kk v t.heap (locs ++ L9) hZ (h_S hS h0 hz hq hL) T' e1 X'
  exact ⟨t2, st t2 a1, b1⟩
/-- the upper class's own method, called by the lower one's -/
def gYP (own : String) (y : MethodName) (cc : ByteArray) (nL : Nat) (ret : Option FieldType) (n : Nat) : Prop := gw (.code y cc nL ret) ∧ gw (.initialized y.cls) ∧ gw (.instanceMethod y) ∧ y.name ≠ "<init>" ∧ (parseMethodDescriptor y.desc).map (fun d => d.parameters.length) = some n ∧ gw (.sameMethod y.cls y.cls y.name y.desc) ∧ gw (.superclass own y.cls)
theorem h_callP (hx : p.tables.exec = Jvm.exec) (hb : c.code = cc) (hml : c.maxLocals = ls.size) (hown : s.vm.findClass own = some m.cls) (E : hE l D cy ad b s) {P1 T1 : va_W} (hM : hW D cy ad b μ P1 T1 H) (hS : va_S (hA b) s.heap H locs) {C : String} {y : MethodName} {bytes : ByteArray} {maxL n idx ci N fr lo mc ms : Nat} {ret : Option FieldType} {Z : Option Value → Heap → Prop} {As : List Value} {fs : List Value} {T0 : u_T} {st : List Value} (hy : gYP own y bytes maxL ret n) (hl : gw (.methodLink own idx y))
    (hMt : Met l y [.code y bytes maxL ret] ({ frames := fr, cells := mc, slots := ms, locals := lo }) (va_Pc (.ref a :: As) (hB l D cy ad b μ P1 T1)) (hQ b Z) mc ms (hA b))
    (ha : (a, .inr (ci, fs)) ∈ hws cy ad μ P1 T1) (hC : vwCl[ci]? = some (C, T0, N)) (hn : As.length = n) (hst : st = As.reverse ++ .ref a :: rest) (hroom : (rest.map fun v => v.category).sum ≤ 8) (hR : fr + 1 ≤ R.frames ∧ 8 + (maxL + 11) + lo ≤ R.locals) (hcs : cells + mc ≤ R.cells ∧ slots + ms ≤ R.slots) (hdg : decode cc pc = .ok (.invokespecial idx, 3))
    (kk : ∀ (rv : Option Value) (H1 : Heap) (locs1 : List Loc), Z rv H1 → va_S (hA b) s.heap H1 locs1 → W p l e R s m args below meth c H1 locs1 (cells + mc) (slots + ms) Q (F0 m (pc + 3) ls (rv.toList ++ rest))) : W p l e R s m args below meth c H locs cells slots Q (F0 m pc ls st) := by
  obtain ⟨k, ha⟩ := List.getElem?_of_mem ha
  subst hst
  intro T0 hT X
  obtain ⟨y1, y2, y3, y4, y6, y7, y8⟩ := hy
  have cb : va_CS R s args own idx y bytes maxL ret [.code y bytes maxL ret] ({ frames := fr, cells := mc, slots := ms, locals := lo }) mc ms n :=
    ⟨⟨rfl, rfl, hR.1, hR.2, (fun w hw a' U hW => by rw [List.mem_singleton.mp hw]; exact word_at hW (good_of_word y1.2) (E.kw y1 (a := #[]))), List.mem_cons_self⟩, E.kw hl, E.kw y7, E.kw y8, E.kw y3, E.kw y2, E.kw y1, y4, (fun sig h => by rw [h] at y6; exact (Option.some.inj y6).symm)⟩
  obtain ⟨cellB, g1, g2, g3⟩ := va_recv E.1.1 hM.1 hC ha
  obtain ⟨v, st₀, t, T', L9, h0, X', hL, e1, e2, ⟨⟨rv, hv, hZ⟩, hz, hq⟩, st⟩ := va_runSU (As := As) (rest := rest) (b := a) (C := C) (own := own) (Ts := []) (nL := ls.size) (E.1.1.1 ci _ hC).2 ⟨hx, hb, hml, hown, fun _ h => nomatch h⟩ hMt cb ⟨hB_blind, ⟨cellB, g1, g2, g3⟩, hB_at E hM hS⟩ (g := F0 m pc ls (As.reverse ++ .ref a :: rest)) rfl hn rfl rfl (lv_room hroom) hdg hcs T0 hT X
  cases hv
  obtain ⟨t2, a1, b1⟩ := kk v t.heap (locs ++ L9) hZ (h_S hS h0 hz hq hL) T' e1 X'
  exact ⟨t2, st t2 a1, b1⟩
end SROWS

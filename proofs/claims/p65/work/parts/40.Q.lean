/-! rows of references that are written, boxes of small numbers, a queue -/
def hdg (ad : Nat → Nat) (h t : Nat) (q : Nat → Nat) : Nat → Option Nat := fun j => if h ≤ j ∧ j < t then some (ad (200 + (128 + q j))) else none
def hdq (cy : Nat → ClassId) (ad : Nat → Nat) (a ae h t : Nat) (q : Nat → Nat) : va_W := [(a, .inr (14, [.ref ae, .int (nI h), .int (nI t)])), (ae, .inl (cy 4, 17, .inr (.inr (.inr (.inr (hdg ad h t q))))))]
theorem hdg_0 {ad : Nat → Nat} {q : Nat → Nat} : (fun _ => none) = hdg ad 0 0 q := by
  funext j
  show none = if _ then _ else none
  rw [if_neg (by omega)]
theorem hdg_add {ad : Nat → Nat} {h t x : Nat} {q : Nat → Nat} (ht : h ≤ t) (hb : t < 2 ^ 31) : va_up (hdg ad h t q) (nI t).toNatClampNeg (some (ad (200 + (128 + x)))) = hdg ad h (t + 1) (fun j => if j = t then x else q j) := by
  rw [nI_clamp hb]
  funext j
  unfold va_up hdg
  by_cases e : j = t
  · subst e
    rw [if_pos rfl, if_pos (by omega)]
    show _ = some (ad (200 + (128 + if j = j then x else q j)))
    rw [if_pos rfl]
  · rw [if_neg e]
    show _ = if h ≤ j ∧ j < t + 1 then some (ad (200 + (128 + if j = t then x else q j))) else none
    rw [if_neg e]
    by_cases c : h ≤ j ∧ j < t
    · rw [if_pos c, if_pos (by omega)]
    · rw [if_neg c, if_neg (by omega)]
theorem hdg_poll {ad : Nat → Nat} {h t : Nat} {q : Nat → Nat} (hb : h < 2 ^ 31) : va_up (hdg ad h t q) (nI h).toNatClampNeg none = hdg ad (h + 1) t q := by
  rw [nI_clamp hb]
  funext j
  unfold va_up hdg
  by_cases e : j = h
  · subst e
    rw [if_pos rfl, if_neg (by omega)]
  · rw [if_neg e]
    by_cases c : h ≤ j ∧ j < t
    · rw [if_pos c, if_pos (by omega)]
    · rw [if_neg c, if_neg (by omega)]
theorem hdg_at {ad : Nat → Nat} {h t j : Nat} {q : Nat → Nat} (h1 : h ≤ j) (h2 : j < t) : hdg ad h t q j = some (ad (200 + (128 + q j))) := if_pos ⟨h1, h2⟩
theorem vb_c_n (x : Nat) : vb_c (128 + x) = nI x := by
  unfold vb_c
  have h : nI (128 + x) - nI 128 = nI (128 + x - 128) := pk_sub (by omega)
  rw [Nat.add_sub_cancel_left] at h
  exact h
theorem nI_neg128 {x : Nat} (h : x < 128) : ¬ nI x < (-128) := by
  intro q
  rw [Int32.lt_iff_toInt_lt, nI_toInt (by omega)] at q
  have : (-128 : Int32).toInt = -128 := by decide
  omega
section HRQ
variable {p : Program} {l : Launch} {e : Env} {R : Room} {s : State} {m : MethodId} {args : Array Value} {below : List Frame} {meth : Method} {c : Code} {H : Heap} {locs : List Loc} {cells slots : Nat} {Q : State → Prop}
variable {cc : ByteArray} {pc : Nat} {ls : Array Slot} {rest : List Value} {D : va_G} {cy : Nat → ClassId} {ad : Nat → Nat} {b a : Nat} {μ : gM} {P T : va_W} {own : String}
theorem h_astB (hx : p.tables.exec = Jvm.exec) (hb : c.code = cc) (E : hE l D cy ad b s) (hM : hW D cy ad b μ P T H) (hS : va_S (hA b) s.heap H locs) {j n k : Nat} {g : Nat → Option Nat} (ha : T[j]? = some (a, .inl (cy 4, n, .inr (.inr (.inr (.inr g)))))) (hk : k < 256) {i : Int32} (hin : gIn i n) (hdg : decode cc pc = .ok (.aastore, 1))
    (kk : ∀ (H1 : Heap) (locs1 : List Loc), hW D cy ad b μ P (T.set j (a, .inl (cy 4, n, .inr (.inr (.inr (.inr (va_up g i.toNatClampNeg (some (ad (200 + k))))))))) ) H1 → va_S (hA b) s.heap H1 locs1 → W p l e R s m args below meth c H1 locs1 cells slots Q (F0 m (pc + 1) ls rest)) : W p l e R s m args below meth c H locs cells slots Q (F0 m pc ls (.ref (ad (200 + k)) :: .int i :: .ref a :: rest)) := by
  obtain ⟨cell, h1, h2, h3, -⟩ := (E.2.2.2.2.2.2.1.1 k hk).kept hS.2.1
  exact vb_astq (C := "java/lang/Integer") (E := "java/lang/Object") hx hb E.1.1 hM.1 hM.2 hS (60 + (P.length + j)) 4 (ht_at ha) rfl ⟨cell, h1, h2, h3⟩ (vb_asgC (E.2.1.2.2.2.1 _ (List.mem_of_getElem? (i := 0) rfl))) (gIn_v hin) hdg (fun H1 locs1 hP1 hD1 hS1 => kk H1 locs1 (h_T hP1 hD1) hS1)
theorem h_astN (hx : p.tables.exec = Jvm.exec) (hb : c.code = cc) (E : hE l D cy ad b s) (hM : hW D cy ad b μ P T H) (hS : va_S (hA b) s.heap H locs) {j n : Nat} {g : Nat → Option Nat} (ha : T[j]? = some (a, .inl (cy 4, n, .inr (.inr (.inr (.inr g)))))) {i : Int32} (hin : gIn i n) (hdg : decode cc pc = .ok (.aastore, 1))
    (kk : ∀ (H1 : Heap) (locs1 : List Loc), hW D cy ad b μ P (T.set j (a, .inl (cy 4, n, .inr (.inr (.inr (.inr (va_up g i.toNatClampNeg none))))))) H1 → va_S (hA b) s.heap H1 locs1 → W p l e R s m args below meth c H1 locs1 cells slots Q (F0 m (pc + 1) ls rest)) : W p l e R s m args below meth c H locs cells slots Q (F0 m pc ls (.null :: .int i :: .ref a :: rest)) :=
  va_astqN (C := "java/lang/Object") hx hb E.1.1 hM.1 hM.2 hS (60 + (P.length + j)) 4 (ht_at ha) rfl (gIn_v hin) hdg (fun H1 locs1 hP1 hD1 hS1 => kk H1 locs1 (h_T hP1 hD1) hS1)
theorem h_astO (hx : p.tables.exec = Jvm.exec) (hb : c.code = cc) (E : hE l D cy ad b s) (hM : hW D cy ad b μ P T H) (hS : va_S (hA b) s.heap H locs) {j n v ci N : Nat} {g : Nat → Option Nat} {vs : List Value} {C : String} {T0 : u_T} {ty0 : Nat → FieldType} (ha : T[j]? = some (a, .inl (cy 4, n, .inr (.inr (.inr (.inr g)))))) (hv : (v, .inr (ci, vs)) ∈ hws cy ad μ P T) (hC : gC ci C T0 N ty0) (hca : (C, "java/lang/Object") ∈ hNc) {i : Int32} (hin : gIn i n) (hdg : decode cc pc = .ok (.aastore, 1))
    (kk : ∀ (H1 : Heap) (locs1 : List Loc), hW D cy ad b μ P (T.set j (a, .inl (cy 4, n, .inr (.inr (.inr (.inr (va_up g i.toNatClampNeg (some v)))))))) H1 → va_S (hA b) s.heap H1 locs1 → W p l e R s m args below meth c H1 locs1 cells slots Q (F0 m (pc + 1) ls rest)) : W p l e R s m args below meth c H locs cells slots Q (F0 m pc ls (.ref v :: .int i :: .ref a :: rest)) := by
  obtain ⟨qk, hv⟩ := List.getElem?_of_mem hv
  exact va_astqO (E := "java/lang/Object") hx hb E.1.1 hM.1 hM.2 hS (60 + (P.length + j)) 4 qk ci (ht_at ha) rfl (E.2.1.2.2.2.1 _ hca) hv hC.1 (gIn_v hin) hdg (fun H1 locs1 hP1 hD1 hS1 => kk H1 locs1 (h_T hP1 hD1) hS1)
/-- a row of references to objects comes into being -/
theorem h_newq (hx : p.tables.exec = Jvm.exec) (hb : c.code = cc) (hown : s.vm.findClass own = some m.cls) (E : hE l D cy ad b s) (hM : hW D cy ad b μ P T H) (hS : va_S (hA b) s.heap H locs) {idx N : Nat} {n : Int32} (hn : n = nI N) (hN : N < 1000) (hcl : gw (.classLink own idx "java/lang/Object")) (hc : cells + 1 ≤ R.cells) (hs : slots + N ≤ R.slots) (hdg : decode cc pc = .ok (.anewarray idx, 3))
    (kk : ∀ (q : Nat) (H1 : Heap), hW D cy ad b μ P (T ++ [(q, .inl (cy 4, N, .inr (.inr (.inr (.inr (fun _ => none))))))]) H1 → va_S (hA b) s.heap H1 locs → W p l e R s m args below meth c H1 locs (cells + 1) (slots + N) Q (F0 m (pc + 3) ls (.ref q :: rest))) : W p l e R s m args below meth c H locs cells slots Q (F0 m pc ls (.int n :: rest)) := by
  subst hn
  refine va_newq (N' := N) hx hb hown (E.kw hcl) E.2.1.2.2.2.2.2 E.1.1 hM.1 hM.2 hS (fun q h => Nat.le_trans E.2.2.1 h) (nI_pos (by omega)) (nI_clamp (by omega)) (by omega) hc hs hdg (fun q cA H1 hK1 hP1 hD1 hS1 => kk q H1 ?_ hS1)
  obtain ⟨kA, comp, -, -, -, e1⟩ := (hK1.2 6 (cA, .object "java/lang/Object") rfl).2
  obtain ⟨kB, comB, -, -, -, e2⟩ := (E.1.1.2 4 (cy 4, .object "java/lang/Object") rfl).2
  obtain rfl : cA = cy 4 := Option.some.inj (e1.symm.trans e2)
  have e3 := ht_push (cy := cy) (ad := ad) (μ := μ) (P := P) (T := T) (x := (q, .inl (cy 4, N, .inr (.inr (.inr (.inr (fun _ => none)))))))
  rw [e3] at hP1 hD1
  exact ⟨hP1, hD1⟩
theorem h_box (hx : p.tables.exec = Jvm.exec) (hb : c.code = cc) (hown : s.vm.findClass own = some m.cls) (E : hE l D cy ad b s) (hS : va_S (hA b) s.heap H locs) {k idx : Nat} (hk : k < 256) (hl : gw (.fieldLink own idx "java/lang/Integer" "value" "I")) {v : Int32} (hv : vb_c k = v) (hdg : decode cc pc = .ok (.getfield idx, 3))
    (kk : W p l e R s m args below meth c H locs cells slots Q (F0 m (pc + 3) ls (.int v :: rest))) : W p l e R s m args below meth c H locs cells slots Q (F0 m pc ls (.ref (ad (200 + k)) :: rest)) := by
  subst hv
  exact va_getX (i := k) (v := fun k => .int (vb_c k)) (ad := fun k => ad (200 + k)) hx hb E.2.2.2.2.2.2.1.2 hk hS hown (E.kw hl) (fun _ h9 => h9) hdg kk
theorem h_castB (hx : p.tables.exec = Jvm.exec) (hb : c.code = cc) (hown : s.vm.findClass own = some m.cls) (E : hE l D cy ad b s) (hS : va_S (hA b) s.heap H locs) {k idx : Nat} (hk : k < 256) (hcl : gw (.classLink own idx "java/lang/Integer")) (hdg : decode cc pc = .ok (.checkcast idx, 3))
    (kk : W p l e R s m args below meth c H locs cells slots Q (F0 m (pc + 3) ls (.ref (ad (200 + k)) :: rest))) : W p l e R s m args below meth c H locs cells slots Q (F0 m pc ls (.ref (ad (200 + k)) :: rest)) := by
  obtain ⟨cell, h1, h2, h3, -⟩ := (E.2.2.2.2.2.2.1.1 k hk).kept hS.2.1
  exact va_castE hx hb hown (E.kw hcl) ⟨cell, h1, h2, h3⟩ hdg kk
/-- a call of a method of a box -/
theorem h_callB (hx : p.tables.exec = Jvm.exec) (hb : c.code = cc) (hml : c.maxLocals = ls.size) (hown : s.vm.findClass own = some m.cls) (E : hE l D cy ad b s) {P1 T1 : va_W} (hM : hW D cy ad b μ P1 T1 H) (hS : va_S (hA b) s.heap H locs) {y : MethodName} {bytes : ByteArray} {maxL n idx k fr lo mc ms : Nat} {ret : Option FieldType} {Z : Option Value → Heap → Prop} {As : List Value} {st : List Value} (hy : gYV y bytes maxL ret n) (hl : gw (.methodLink own idx y))
    (hMt : Met l y [.code y bytes maxL ret] ({ frames := fr, cells := mc, slots := ms, locals := lo }) (va_Pc (.ref (ad (200 + k)) :: As) (hB l D cy ad b μ P1 T1)) (hQ b Z) mc ms (hA b))
    (hk : k < 256) (hC : y.cls = "java/lang/Integer") (hn : As.length = n) (hst : st = As.reverse ++ .ref (ad (200 + k)) :: rest) (hroom : (rest.map fun v => v.category).sum ≤ 8) (hR : fr + 1 ≤ R.frames ∧ 8 + (maxL + 11) + lo ≤ R.locals) (hcs : cells + mc ≤ R.cells ∧ slots + ms ≤ R.slots) (hdg : decode cc pc = .ok (.invokevirtual idx, 3))
    (kk : ∀ (rv : Option Value) (H1 : Heap) (locs1 : List Loc), Z rv H1 → va_S (hA b) s.heap H1 locs1 → W p l e R s m args below meth c H1 locs1 (cells + mc) (slots + ms) Q (F0 m (pc + 3) ls (rv.toList ++ rest))) : W p l e R s m args below meth c H locs cells slots Q (F0 m pc ls st) := by
  subst hst
  intro T0 hT X
  obtain ⟨y1, y2, y3, y4, y5, y6⟩ := hy
  have cb : CallB R s args own idx y bytes maxL ret [.code y bytes maxL ret] ({ frames := fr, cells := mc, slots := ms, locals := lo }) mc ms n :=
    ⟨rfl, rfl, hR.1, hR.2, (fun w hw a' U hW => by rw [List.mem_singleton.mp hw]; exact word_at hW (good_of_word y1.2) (E.kw y1 (a := #[]))), List.mem_cons_self, E.kw y1, E.kw y2, y5, (fun sig h => by rw [h] at y6; exact (Option.some.inj y6).symm), E.kw hl⟩
  obtain ⟨cell, g1, g2, g3, -⟩ := (E.2.2.2.2.2.2.1.1 k hk).kept hS.2.1
  obtain ⟨v, st₀, t, T', L9, h0, X', hL, e1, e2, ⟨⟨rv, hv, hZ⟩, hz, hq⟩, st⟩ := va_runV (As := As) (rest := rest) (b := ad (200 + k)) (C := y.cls) (own := own) (Ts := []) (nL := ls.size) ⟨hx, hb, hml, hown, fun _ h => nomatch h⟩ hMt ⟨cb, E.kw y3, E.kw y4⟩ ⟨hB_blind, ⟨cell, g1, g2, by rw [hC]; exact g3⟩, hB_at E hM hS⟩ (g := F0 m pc ls (As.reverse ++ .ref (ad (200 + k)) :: rest)) rfl hn rfl rfl (lv_room hroom) hdg hcs T0 hT X
  cases hv
  obtain ⟨t2, a1, b1⟩ := kk v t.heap (locs ++ L9) hZ (h_S hS h0 hz hq hL) T' e1 X'
  exact ⟨t2, st t2 a1, b1⟩
end HRQ

def scrAt (L : Nat) (xs : Nat → Int32) (x4 : Int32) (j : Int32) (v : Int32) : Prop := vp_in (x4 + j) L ∧ xs (x4 + j).toNatClampNeg = v
section GLAW
variable {p : Program} {l : Launch} {e : Env} {R : Room} {s : State} {m : MethodId} {args : Array Value} {below : List Frame} {meth : Method} {c : Code} {H : Heap} {locs : List Loc} {cells slots : Nat} {Q : State → Prop}
variable {cc : ByteArray} {pc : Nat} {ls : Array Slot} {rest : List Value} {L : List Nat} {D : va_G} {cy : Nat → ClassId} {ad : Nat → Nat} {base : Nat} {μ μ' : gM} {own : String}
theorem g_scr (hx : p.tables.exec = Jvm.exec) (hb : c.code = cc) {b n : Nat} {xs : Nat → Int32} (hX : va_X b n xs s s.heap) (hbl : b < s.heap.size) (hbA : ¬ gA base b) (hS : va_S (gA base) s.heap H locs) {x4 j v : Int32} (h : scrAt n xs x4 j v) (hdg : decode cc pc = .ok (.iaload, 1))
    (kk : W p l e R s m args below meth c H locs cells slots Q (F0 m (pc + 1) ls (.int v :: rest))) : W p l e R s m args below meth c H locs cells slots Q (F0 m pc ls (.int (x4 + j) :: .ref b :: rest)) := by
  refine va_sld hx hb hX hbl hbA hS h.1 hdg ?_
  rw [h.2]
  exact kk
theorem g_callVL (hx : p.tables.exec = Jvm.exec) (hb : c.code = cc) (hml : c.maxLocals = ls.size) (hown : s.vm.findClass own = some m.cls) (E : gEnv l D cy ad base s) (hM : gW L D cy ad base μ H) (hS : va_S (gA base) s.heap H locs) {y : MethodName} {bytes : ByteArray} {maxL n idx q k ci N fr lo : Nat} {ret : Option FieldType} {rv : Option Value} {As : List Value} {fs : List Nat} {T : u_T} {st : List Value} (hy : gYV y bytes maxL ret n) (hl : gw (.methodLink own idx y))
    (hMt : Met l y [.code y bytes maxL ret] ({ frames := fr, cells := 0, slots := 0, locals := lo }) (va_Pc (.ref (ad k) :: As) (gB l L D cy ad base μ)) (gQL rv D cy ad base μ') 0 0 (gA base))
    (hk : L[q]? = some k) (hd : gDesc k = .inr (ci, fs)) (hC : vwCl[ci]? = some (y.cls, T, N)) (hn : As.length = n) (hst : st = As.reverse ++ .ref (ad k) :: rest) (hroom : (rest.map fun v => v.category).sum ≤ 8) (hR : fr + 1 ≤ R.frames ∧ 8 + (maxL + 11) + lo ≤ R.locals) (hcs : cells ≤ R.cells ∧ slots ≤ R.slots) (hdg : decode cc pc = .ok (.invokevirtual idx, 3))
    (kk : ∀ (ad2 : Nat → Nat) (H1 : Heap) (locs1 : List Loc), (∀ k, k < 34 ∨ 60 ≤ k → ad2 k = ad k) → gW gFull D cy ad2 base μ' H1 → va_S (gA base) s.heap H1 locs1 → W p l e R s m args below meth c H1 locs1 cells slots Q (F0 m (pc + 3) ls (rv.toList ++ rest))) : W p l e R s m args below meth c H locs cells slots Q (F0 m pc ls st) := by
  subst hst
  intro T0 hT X
  obtain ⟨y1, y2, y3, y4, y5, y6⟩ := hy
  have cb : CallB R s args own idx y bytes maxL ret [.code y bytes maxL ret] ({ frames := fr, cells := 0, slots := 0, locals := lo }) 0 0 n :=
    ⟨rfl, rfl, hR.1, hR.2, (fun w hw a' U hW => by rw [List.mem_singleton.mp hw]; exact word_at hW (good_of_word y1.2) (E.kw y1 (a := #[]))), List.mem_cons_self, E.kw y1, E.kw y2, y5, (fun sig h => by rw [h] at y6; exact (Option.some.inj y6).symm), E.kw hl⟩
  obtain ⟨cellB, g1, g2, g3⟩ := va_recv E.1 hM.1 hC (by rw [gws_get hk, gE_obj hd])
  obtain ⟨v, st₀, t, T', L9, h0, X', hL, e1, ⟨hv, ⟨ad2, had, hW'⟩, hz, hq⟩, st⟩ := W.runV (As := As) (rest := rest) (b := ad k) (C := y.cls) (own := own) (Ts := []) (nL := ls.size) ⟨hx, hb, hml, hown, fun _ h => nomatch h⟩ hMt ⟨cb, E.kw y3, E.kw y4⟩ ⟨gB_blind, ⟨cellB, g1, g2, g3⟩, gB_at E hM hS⟩ (g := F0 m pc ls (As.reverse ++ .ref (ad k) :: rest)) rfl hn rfl rfl (lv_room hroom) hdg ⟨hcs.1, hcs.2⟩ T0 hT X
  cases hv
  obtain ⟨t2, a1, b1⟩ := kk ad2 t.heap (locs ++ L9) had hW' (g_S_call hS h0 hz hq hL) T' e1 X'
  exact ⟨t2, st t2 a1, b1⟩
end GLAW

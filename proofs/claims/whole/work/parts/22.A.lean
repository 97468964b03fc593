def gYW (y : MethodName) (cc : ByteArray) (nL : Nat) (ret : Option FieldType) (hh : List (Nat × Nat × Nat × Nat)) (n : Nat) : Prop := gw (.codeWith y cc nL ret hh) ∧ gw (.initialized y.cls) ∧ gw (.static y) ∧ (y.cls ≠ "java/lang/invoke/MethodHandle" ∧ y.cls ≠ "java/lang/invoke/VarHandle") ∧ (parseMethodDescriptor y.desc).map (fun d => d.parameters.length) = some n
section GROWSA
variable {p : Program} {l : Launch} {e : Env} {R : Room} {s : State} {m : MethodId} {args : Array Value} {below : List Frame} {meth : Method} {c : Code} {H : Heap} {locs : List Loc} {cells slots : Nat} {Q : State → Prop}
variable {cc : ByteArray} {pc : Nat} {ls : Array Slot} {rest : List Value} {L : List Nat} {D : va_G} {cy : Nat → ClassId} {ad : Nat → Nat} {base : Nat} {μ μ' : gM} {own : String}
theorem g_castW (E : gEnv l D cy ad base s) {args : Array Value} : (Cond.castable gIO gIO).before args s = true := va_Nw.use rfl (E.2.2.2.2.2.2.2.2 _ (by simp [gThrL]))
theorem g_callSW (hx : p.tables.exec = Jvm.exec) (hb : c.code = cc) (hml : c.maxLocals = ls.size) (hown : s.vm.findClass own = some m.cls) (E : gEnv l D cy ad base s) (hM : gW L D cy ad base μ H) (hS : va_S (gA base) s.heap H locs) {y : MethodName} {bytes : ByteArray} {maxL n idx fr lo mc ms : Nat} {ret : Option FieldType} {hh : List (Nat × Nat × Nat × Nat)} {rv : Option Value} {As : List Value} {st : List Value} (hy : gYW y bytes maxL ret hh n) (hl : gw (.methodLink own idx y))
    (hMt : Met l y [.codeWith y bytes maxL ret hh] ({ frames := fr, cells := mc, slots := ms, locals := lo }) (va_Pc As (gB l L D cy ad base μ)) (gQ rv L D cy ad base μ') mc ms (gA base))
    (hn : As.length = n) (hst : st = As.reverse ++ rest) (hroom : (rest.map fun v => v.category).sum ≤ 8) (hR : fr + 1 ≤ R.frames ∧ 8 + (maxL + 11) + lo ≤ R.locals) (hcs : cells + mc ≤ R.cells ∧ slots + ms ≤ R.slots) (hdg : decode cc pc = .ok (.invokestatic idx, 3))
    (kk : ∀ (H1 : Heap) (locs1 : List Loc), gW L D cy ad base μ' H1 → va_S (gA base) s.heap H1 locs1 → W p l e R s m args below meth c H1 locs1 (cells + mc) (slots + ms) Q (F0 m (pc + 3) ls (rv.toList ++ rest))) : W p l e R s m args below meth c H locs cells slots Q (F0 m pc ls st) := by
  subst hst
  intro T0 hT X
  obtain ⟨y1, y2, y3, y5, y6⟩ := hy
  have cb : vx_CSW R s args own idx y bytes maxL ret hh [.codeWith y bytes maxL ret hh] ({ frames := fr, cells := mc, slots := ms, locals := lo }) mc ms n :=
    ⟨⟨rfl, rfl, hR.1, hR.2, (fun w hw a' U hW => by rw [List.mem_singleton.mp hw]; exact word_at hW (good_of_word y1.2) (E.kw y1 (a := #[]))), List.mem_cons_self⟩, E.kw y1, E.kw y2, y5, (fun sig h => by rw [h] at y6; exact (Option.some.inj y6).symm), E.kw hl, E.kw y3⟩
  obtain ⟨v, st₀, t, T', L9, h0, X', hL, e1, e2, ⟨hv, hW', hz, hq⟩, st⟩ := vx_runSW (As := As) (rest := rest) (own := own) (Ts := []) (nL := ls.size) ⟨hx, hb, hml, hown, fun _ h => nomatch h⟩ hMt cb ⟨gB_blind, gB_at E hM hS⟩ (g := F0 m pc ls (As.reverse ++ rest)) rfl hn rfl rfl (lv_room hroom) hdg hcs T0 hT X
  cases hv
  obtain ⟨t2, a1, b1⟩ := kk t.heap (locs ++ L9) hW' (g_S_call hS h0 hz hq hL) T' e1 X'
  exact ⟨t2, st t2 a1, b1⟩
end GROWSA

/-! the law's numbers change -/
theorem gupd {α : Type} {v : gM} {f : gM → Option α} {o : α} (h : Option.bind (some v) f = some o) : ∃ ν, ν = v ∧ f ν = some o := ⟨v, rfl, h⟩
def hV (D : va_G) (cy : Nat → ClassId) (ad : Nat → Nat) (la : Nat → Nat → Nat) (b : Nat) (μ ν : gM) (T : va_W) (H : Heap) : Prop := lS ν ∧ lF ν ∧ hW D cy ad b μ (lws cy ad la ν) T H
section NUS
variable {ν : gM} {id i : Nat} {v : Int32} {w : Int64}
theorem si_S (ho : okid id) (hs : lS ν) : lS (si ν id i v) := lAg_si.S ho hs
theorem si_F (ho : okid id) (hs : lS ν) (hf : lF ν) : lF (si ν id i v) := lAg_si.F ho hs.2.2.1.1 hf
theorem sl_S (ho : okid id) (hs : lS ν) : lS (sl ν id i w) := lAg_sl.S ho hs
theorem sl_F (ho : okid id) (hs : lS ν) (hf : lF ν) : lF (sl ν id i w) := lAg_sl.F ho hs.2.2.1.1 hf
end NUS
theorem l_sw7 {x : Int32} (h0 : ¬ x = 0) (h1 : ¬ x = 1) (h2 : ¬ x = 2) (h3 : ¬ x = 3) (h4 : ¬ x = 4) (h5 : ¬ x = 5) (h6 : ¬ x = 6) : x.toInt < 0 ∨ 6 < x.toInt := by
  refine Decidable.byContradiction (fun hh => ?_)
  have hx : 0 ≤ x.toInt ∧ x.toInt ≤ 6 := ⟨Int.not_lt.mp (fun q => hh (Or.inl q)), Int.not_lt.mp (fun q => hh (Or.inr q))⟩
  have hc : x.toInt = 0 ∨ x.toInt = 1 ∨ x.toInt = 2 ∨ x.toInt = 3 ∨ x.toInt = 4 ∨ x.toInt = 5 ∨ x.toInt = 6 := by omega
  rcases hc with h | h | h | h | h | h | h
  · exact h0 (Int32.toInt_inj.mp h)
  · exact h1 (Int32.toInt_inj.mp h)
  · exact h2 (Int32.toInt_inj.mp h)
  · exact h3 (Int32.toInt_inj.mp h)
  · exact h4 (Int32.toInt_inj.mp h)
  · exact h5 (Int32.toInt_inj.mp h)
  · exact h6 (Int32.toInt_inj.mp h)
theorem l_rowm {cy : Nat → ClassId} {ad : Nat → Nat} {la la' : Nat → Nat → Nat} {ν ν' : gM} {P : va_W} {k a : Nat} {g : Nat → Int32} (hY : lY cy ad la' ν' P) (hla : la' = lset la (100 + k) (lSz ν k) a) (hν : ν' = lgrow ν k g) (hk1 : k < lLs ν) (hk9 : k < lLn ν) (h8 : lSz ν k < 8) (hL : lLs ν ≤ 11) : (a, .inl (cy 0, 4, .inl (ν'.1 (100 + 8 * k + lSz ν k)))) ∈ P := by
  have h1 : k < lLn ν' := by rw [hν, lgrow_ln (by omega)]; exact hk9
  have h2 : lSz ν k < lSz ν' k := by rw [hν, lgrow_szk h8]; omega
  have h := hY.c3 h1 h2
  rw [hla, lset_eq] at h
  exact h
theorem cl_get2 {l : Launch} {D : va_G} {cy : Nat → ClassId} {ad : Nat → Nat} {b : Nat} {μ ν : gM} {P : va_W} {la : Nat → Nat → Nat} (hY : lY cy ad la ν P) {k : Nat} (hk : k < lLn ν) {i : Int32} (hi : gIn i (lSz ν k)) : Met l yJx4a65c_get_915e3 [.code yJx4a65c_get_915e3 cJx4a65c_get_915e3 2 (some (.object "java/lang/Object"))] ({ frames := 2, cells := 0, slots := 0, locals := 43 } : Room) (va_Pc [.ref (la 40 k), .int i] (hB l D cy ad b μ P [])) (hQ b (fun rv H => rv = some (.ref (la (100 + k) i.toNatClampNeg)) ∧ hW D cy ad b μ P [] H)) 0 0 (hA b) := by
  have h8 := (lY.sz hY hk).2.1
  have h := c_get (l := l) (D := D) (cy := cy) (ad := ad) (b := b) (μ := μ) (P := P) (hY.c2 hk 1 rfl) (hY.c2 hk 2 rfl) hi.2 (by omega) (by omega) (by omega) (lRf_in hi.2)
  rwa [← gIn_e hi] at h
section WR64
variable {p : Program} {l : Launch} {e : Env} {R : Room} {s : State} {m : MethodId} {args : Array Value} {below : List Frame} {meth : Method} {c : Code} {H : Heap} {locs : List Loc} {cells slots : Nat} {Q : State → Prop}
variable {cc : ByteArray} {pc : Nat} {ls : Array Slot} {rest : List Value} {D : va_G} {cy : Nat → ClassId} {ad : Nat → Nat} {la : Nat → Nat → Nat} {b a : Nat} {μ ν : gM} {P T : va_W} {own : String}
theorem lw_coll (hx : p.tables.exec = Jvm.exec) (hb : c.code = cc) (E : hE l D cy ad b s) (hs : lS ν) (hM : hW D cy ad b μ (lws cy ad la ν) T H) (hS : va_S (hA b) s.heap H locs) {i x : Int32} (hin : gIn i 2) (hdg : decode cc pc = .ok (.iastore, 1))
    (kk : ∀ (H1 : Heap) (locs1 : List Loc), hW D cy ad b μ (lws cy ad la (si ν 1 i.toNatClampNeg x)) T H1 → va_S (hA b) s.heap H1 locs1 → W p l e R s m args below meth c H1 locs1 cells slots Q (F0 m (pc + 1) ls rest)) : W p l e R s m args below meth c H locs cells slots Q (F0 m pc ls (.int x :: .int i :: .ref (la 1 0) :: rest)) :=
  lw_iast (k := (1, 0)) (id := 1) hx hb E hs hM hS (lkeys_mem.mpr (Or.inl ⟨by decide, rfl, fun h => absurd h (by decide)⟩)) (by unfold okid; omega) rfl (fun _ _ => rfl) hin hdg kk
theorem lw_held (hx : p.tables.exec = Jvm.exec) (hb : c.code = cc) (E : hE l D cy ad b s) (hs : lS ν) (hM : hW D cy ad b μ (lws cy ad la ν) T H) (hS : va_S (hA b) s.heap H locs) {i x : Int32} (hin : gIn i 16) (hdg : decode cc pc = .ok (.iastore, 1))
    (kk : ∀ (H1 : Heap) (locs1 : List Loc), hW D cy ad b μ (lws cy ad la (si ν 2 i.toNatClampNeg x)) T H1 → va_S (hA b) s.heap H1 locs1 → W p l e R s m args below meth c H1 locs1 cells slots Q (F0 m (pc + 1) ls rest)) : W p l e R s m args below meth c H locs cells slots Q (F0 m pc ls (.int x :: .int i :: .ref (la 2 0) :: rest)) :=
  lw_iast (k := (2, 0)) (id := 2) hx hb E hs hM hS (lkeys_mem.mpr (Or.inl ⟨by decide, rfl, fun h => absurd h (by decide)⟩)) (by unfold okid; omega) rfl (fun _ _ => rfl) hin hdg kk
theorem lw_setup (hx : p.tables.exec = Jvm.exec) (hb : c.code = cc) (E : hE l D cy ad b s) (hs : lS ν) (hM : hW D cy ad b μ (lws cy ad la ν) T H) (hS : va_S (hA b) s.heap H locs) {k j : Nat} (hk : k < lLs ν) (hj : j < lSz ν k) {i x : Int32} (hin : gIn i 4) (hdg : decode cc pc = .ok (.iastore, 1))
    (kk : ∀ (H1 : Heap) (locs1 : List Loc), hW D cy ad b μ (lws cy ad la (si ν (100 + 8 * k + j) i.toNatClampNeg x)) T H1 → va_S (hA b) s.heap H1 locs1 → W p l e R s m args below meth c H1 locs1 cells slots Q (F0 m (pc + 1) ls rest)) : W p l e R s m args below meth c H locs cells slots Q (F0 m pc ls (.int x :: .int i :: .ref (la (100 + k) j) :: rest)) :=
  lw_iast (k := (100 + k, j)) (id := 100 + 8 * k + j) hx hb E hs hM hS (lkeys_mem.mpr (Or.inr (Or.inr (Or.inr (Or.inl ⟨by show 100 ≤ 100 + k; omega, by show 100 + k - 100 < _; omega, by show j < lSz ν (100 + k - 100); rw [Nat.add_sub_cancel_left]; exact hj⟩))))) (by unfold okid; omega) (by
    unfold kid
    rw [if_neg (by show ¬ 100 + k < 10; omega), if_neg (by show ¬ 100 + k < 100; omega)]
    show 100 + 8 * (100 + k - 100) + j = _
    rw [Nat.add_sub_cancel_left]) (fun _ _ => lE_100) hin hdg kk
/-- a row of four ints comes into being -/
theorem l_newI (hx : p.tables.exec = Jvm.exec) (hb : c.code = cc) (E : hE l D cy ad b s) (hM : hW D cy ad b μ P T H) (hS : va_S (hA b) s.heap H locs) (hc : cells + 1 ≤ R.cells) (hs : slots + 4 ≤ R.slots) (hdg : decode cc pc = .ok (.newarray .int, 2))
    (kk : ∀ (q : Nat) (H1 : Heap), hW D cy ad b μ P (T ++ [(q, .inl (cy 0, 4, .inl (fun _ => 0)))]) H1 → va_S (hA b) s.heap H1 locs → W p l e R s m args below meth c H1 locs (cells + 1) (slots + 4) Q (F0 m (pc + 2) ls (.ref q :: rest))) : W p l e R s m args below meth c H locs cells slots Q (F0 m pc ls (.int (4 : Int32) :: rest)) := by
  refine va_newa (atype := .int) (ty := .int) (a0 := (4, .inl (fun _ => 0))) (N' := 4) hx hb (show (Cond.arrayClass (newarray.typeOf .int)).before args s = true from E.kw kw_230) rfl E.1.1 hM.1 hM.2 hS (fun q h => Nat.le_trans E.2.2.1 h) (fun cA => rfl) (by decide) (by decide) (by decide) hc hs hdg (fun q cA H1 hK1 hP1 hD1 hS1 => ?_)
  have e1 : s.vm.findClass ("[" ++ FieldType.int.toString) = some cA := (hK1.2 6 (cA, .int) rfl).2
  have e2 : s.vm.findClass ("[" ++ FieldType.int.toString) = some (cy 0) := (E.1.1.2 0 (cy 0, .int) rfl).2
  obtain rfl : cA = cy 0 := Option.some.inj (e1.symm.trans e2)
  refine kk q H1 ?_ hS1
  have e3 := ht_push (cy := cy) (ad := ad) (μ := μ) (P := P) (T := T) (x := (q, .inl (cy 0, (4, .inl (fun _ => 0)))))
  rw [e3] at hP1 hD1
  exact ⟨hP1, hD1⟩
theorem h_callSCN (hx : p.tables.exec = Jvm.exec) (hb : c.code = cc) (hml : c.maxLocals = ls.size) (hown : s.vm.findClass own = some m.cls) (E : hE l D cy ad b s) (hM : hW D cy ad b μ P T H) (hS : va_S (hA b) s.heap H locs) {y : MethodName} {bytes : ByteArray} {maxL n idx fr lo : Nat} {ret : Option FieldType} {rv : Option Value} {As : List Value} {st : List Value} {μ' : gM} {host : String} (hy : gYS y bytes maxL ret n) (hl : va_Nw (.methodLinkNest own idx y host) s)
    (hMt : Met l y [.code y bytes maxL ret] ({ frames := fr, cells := 0, slots := 0, locals := lo }) (va_Pc As (gB l gFull D cy ad (b, P ++ T) μ)) (gQ rv gFull D cy ad (b, P ++ T) μ') 0 0 (gA (b, P ++ T)))
    (hn : As.length = n) (hst : st = As.reverse ++ rest) (hroom : (rest.map fun v => v.category).sum ≤ 8) (hR : fr + 1 ≤ R.frames ∧ 8 + (maxL + 11) + lo ≤ R.locals) (hcs : cells ≤ R.cells ∧ slots ≤ R.slots) (hdg : decode cc pc = .ok (.invokestatic idx, 3))
    (kk : ∀ (H1 : Heap) (locs1 : List Loc), hW D cy ad b μ' P T H1 → va_S (hA b) s.heap H1 locs1 → W p l e R s m args below meth c H1 locs1 cells slots Q (F0 m (pc + 3) ls (rv.toList ++ rest))) : W p l e R s m args below meth c H locs cells slots Q (F0 m pc ls st) :=
  g_callSN (base := (b, P ++ T)) hx hb hml hown (E.g _) hM hS hy hl hMt hn hst hroom hR hcs hdg kk
end WR64

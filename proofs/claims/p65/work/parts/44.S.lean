/-! rows of bytes: written, made, copied, cloned -/
section BROWS
variable {p : Program} {l : Launch} {e : Env} {R : Room} {s : State} {m : MethodId} {args : Array Value} {below : List Frame} {meth : Method} {c : Code} {H : Heap} {locs : List Loc} {cells slots : Nat} {Q : State → Prop}
variable {cc : ByteArray} {pc : Nat} {ls : Array Slot} {rest : List Value} {D : va_G} {cy : Nat → ClassId} {ad : Nat → Nat} {b a : Nat} {μ : gM} {P T : va_W} {own : String} {sa va : Nat} {S : List Nat}
theorem h_bast (hx : p.tables.exec = Jvm.exec) (hb : c.code = cc) (E : hE l D cy ad b s) (hM : hW D cy ad b μ P T H) (hS : va_S (hA b) s.heap H locs) {j n : Nat} {g : Nat → Int32} (ha : T[j]? = some (a, .inl (cy 2, n, .inl g))) {i : Int32} {x : Int32} (hin : gIn i n) (hdg : decode cc pc = .ok (.bastore, 1))
    (kk : ∀ (H1 : Heap) (locs1 : List Loc), hW D cy ad b μ P (T.set j (a, .inl (cy 2, n, .inl (upd g i.toNatClampNeg x.toInt8.toInt32)))) H1 → va_S (hA b) s.heap H1 locs1 → W p l e R s m args below meth c H1 locs1 cells slots Q (F0 m (pc + 1) ls rest)) : W p l e R s m args below meth c H locs cells slots Q (F0 m pc ls (.int x :: .int i :: .ref a :: rest)) :=
  va_bast hx hb E.1.1 hM.1 hM.2 hS (60 + (P.length + j)) 2 (ht_at ha) rfl (gIn_v hin) hdg (fun H1 locs1 hP1 hD1 hS1 => kk H1 locs1 (h_T hP1 hD1) hS1)
theorem h_newY (hx : p.tables.exec = Jvm.exec) (hb : c.code = cc) (E : hE l D cy ad b s) (hM : hW D cy ad b μ P T H) (hS : va_S (hA b) s.heap H locs) {n : Nat} (hn : n ≤ 2056) (hc : cells + 1 ≤ R.cells) (hs : slots + 2056 ≤ R.slots) (hdg : decode cc pc = .ok (.newarray .byte, 2))
    (kk : ∀ (q : Nat) (H1 : Heap), hW D cy ad b μ P (T ++ [(q, .inl (cy 2, n, .inl (fun _ => 0)))]) H1 → va_S (hA b) s.heap H1 locs → W p l e R s m args below meth c H1 locs (cells + 1) (slots + 2056) Q (F0 m (pc + 2) ls (.ref q :: rest))) : W p l e R s m args below meth c H locs cells slots Q (F0 m pc ls (.int (nI n) :: rest)) := by
  refine va_newa (atype := .byte) (ty := .byte) (a0 := (n, .inl (fun _ => 0))) (N' := n) hx hb (show (Cond.arrayClass (newarray.typeOf .byte)).before args s = true from E.kw kw_207) rfl E.1.1 hM.1 hM.2 hS (fun q h => Nat.le_trans E.2.2.1 h) (fun cA => rfl) (nI_pos (by omega)) (nI_clamp (by omega)) (by show n * 1 ≤ _; omega) hc (by omega) hdg (fun q cA H1 hK1 hP1 hD1 hS1 => ?_)
  have e1 : s.vm.findClass ("[" ++ FieldType.byte.toString) = some cA := (hK1.2 6 (cA, .byte) rfl).2
  have e2 : s.vm.findClass ("[" ++ FieldType.byte.toString) = some (cy 2) := (E.1.1.2 2 (cy 2, .byte) rfl).2
  obtain rfl : cA = cy 2 := Option.some.inj (e1.symm.trans e2)
  refine W.widen (Nat.le_refl _) (by omega) (kk q H1 ?_ hS1)
  have e3 := ht_push (cy := cy) (ad := ad) (μ := μ) (P := P) (T := T) (x := (q, .inl (cy 2, (n, .inl (fun _ => 0)))))
  rw [e3] at hP1 hD1
  exact ⟨hP1, hD1⟩
def gYC (own : String) (idx : Nat) : Prop := gw (.methodLink own idx arraycopyName) ∧ gw (.native arraycopyName) ∧ gw (.static arraycopyName) ∧ gw (.initialized "java/lang/System")
/-- bytes are copied from one row to another -/
theorem h_cpyT (hx : p.tables.exec = Jvm.exec) (hb : c.code = cc) (hml : c.maxLocals = ls.size) (hown : s.vm.findClass own = some m.cls) (E : hE l D cy ad b s) (hM : hW D cy ad b μ P T H) (hS : va_S (hA b) s.heap H locs) {idx : Nat} (hl : gYC own idx) {n0 : Nat} (hv : (va, .inl (cy 2, n0, .inl (sby S))) ∈ hws cy ad μ P T) {j n1 : Nat} {g : Nat → Int32} (ha : T[j]? = some (a, .inl (cy 2, n1, .inl g))) {sp dp n : Nat} (h4 : sp + n ≤ n0) (h5 : dp + n ≤ n1) (h0 : n0 < 2 ^ 31) (h1 : n1 < 2 ^ 31)
    (hRf : 1 ≤ R.frames) (hRl : (rest.map fun v => v.category).sum + (nativeFrameWords "java/lang/System" "arraycopy" 5 + 11) ≤ R.locals) (hdg : decode cc pc = .ok (.invokestatic idx, 3))
    (kk : ∀ (H1 : Heap) (locs1 : List Loc), hW D cy ad b μ P (T.set j (a, .inl (cy 2, n1, .inl (va_cpy (sby S) g sp dp n)))) H1 → va_S (hA b) s.heap H1 locs1 → W p l e R s m args below meth c H1 locs1 cells slots Q (F0 m (pc + 3) ls rest)) : W p l e R s m args below meth c H locs cells slots Q (F0 m pc ls (.int (nI n) :: .int (nI dp) :: .ref a :: .int (nI sp) :: .ref va :: rest)) := by
  obtain ⟨q0, hv⟩ := List.getElem?_of_mem hv
  have e1 := nI_clamp (n := sp) (by omega)
  have e2 := nI_clamp (n := dp) (by omega)
  have e3 := nI_clamp (n := n) (by omega)
  refine va_copyi (ty := .byte) hx hb hml hown (E.kw hl.1) (E.kw hl.2.1) (E.kw hl.2.2.1) (E.kw hl.2.2.2) E.1.1 hM.1 hM.2 hS q0 (60 + (P.length + j)) 2 2 hv (ht_at ha) rfl rfl rfl (nI_pos (by omega)) (nI_pos (by omega)) (nI_pos (by omega)) (by rw [e1, e3]; exact h4) (by rw [e2, e3]; exact h5) (fun i _ => sb_fitB _) hRf hRl hdg (fun H1 locs1 hP1 hD1 hS1 => ?_)
  rw [e1, e2, e3] at hP1 hD1
  exact kk H1 locs1 (h_T hP1 hD1) hS1
/-- a String's bytes are copied into a row at hand -/
theorem h_cpyK (hx : p.tables.exec = Jvm.exec) (hb : c.code = cc) (hml : c.maxLocals = ls.size) (hown : s.vm.findClass own = some m.cls) (E : hE l D cy ad b s) (hM : hW D cy ad b μ P T H) (hS : va_S (hA b) s.heap H locs) {idx : Nat} (hl : gYC own idx) (hs : sSrc cy ad P sa va S) (h0 : S.length < 2 ^ 31) {j n1 : Nat} {g : Nat → Int32} (ha : T[j]? = some (a, .inl (cy 2, n1, .inl g))) {dp : Nat} (h5 : dp + S.length ≤ n1) (h1 : n1 < 2 ^ 31)
    (hRf : 1 ≤ R.frames) (hRl : (rest.map fun v => v.category).sum + (nativeFrameWords "java/lang/System" "arraycopy" 5 + 11) ≤ R.locals) (hdg : decode cc pc = .ok (.invokestatic idx, 3))
    (kk : ∀ (H1 : Heap) (locs1 : List Loc), hW D cy ad b μ P (T.set j (a, .inl (cy 2, n1, .inl (va_cpy (sby S) g 0 dp S.length)))) H1 → va_S (hA b) s.heap H1 locs1 → W p l e R s m args below meth c H1 locs1 cells slots Q (F0 m (pc + 3) ls rest)) : W p l e R s m args below meth c H locs cells slots Q (F0 m pc ls (.int (nI S.length) :: .int (nI dp) :: .ref a :: .int (nI 0) :: .ref va :: rest)) := by
  rcases hs with ⟨i, hi, rfl, rfl, rfl⟩ | ⟨hs1, hs2⟩
  · have e1 := nI_clamp (n := 0) (by omega)
    have e2 := nI_clamp (n := dp) (by omega)
    have e3 := nI_clamp (n := (sTx i).length) h0
    have hX := (E.2.2.2.2.2.2.2.2.2.2.1.1 i hi).2.2.2
    have hf := (sTx_by i hi).1
    have hn := (sTx_by i hi).2
    have hX2 : va_T .byte (ad (480 + i)) (sTx i).length (fun j => .int (sby (sTx i) j)) (hA b) s s.heap := by
      rw [← hn, ← hf]; exact hX
    refine vk_copyt hx hb hml hown (E.kw hl.1) (E.kw hl.2.1) (E.kw hl.2.2.1) (E.kw hl.2.2.2) E.1.1 hM.1 hM.2 hS hX2 (60 + (P.length + j)) 2 (ht_at ha) rfl (nI_pos (by omega)) (nI_pos (by omega)) (nI_pos (by omega)) (by rw [e1, e3]; omega) (by rw [e2, e3]; exact h5) (fun i _ => sb_fitB _) hRf hRl hdg (fun H1 locs1 hP1 hD1 hS1 => ?_)
    rw [e1, e2, e3] at hP1 hD1
    exact kk H1 locs1 (h_T hP1 hD1) hS1
  · exact h_cpyT hx hb hml hown E hM hS hl (hp_m hs2) ha (by omega) h5 h0 h1 hRf hRl hdg kk
/-- a row of bytes is cloned -/
theorem h_cloneY (hx : p.tables.exec = Jvm.exec) (hb : c.code = cc) (hml : c.maxLocals = ls.size) (hown : s.vm.findClass own = some m.cls) (E : hE l D cy ad b s) (hM : hW D cy ad b μ P T H) (hS : va_S (hA b) s.heap H locs) {idx : Nat} (hl : gw (.methodLink own idx ⟨"[B", "clone", "()Ljava/lang/Object;"⟩)) {n0 : Nat} (hv : (va, .inl (cy 2, n0, .inl (sby S))) ∈ hws cy ad μ P T) (hn : n0 ≤ 2056) (hRf : 1 ≤ R.frames) (hRl : (rest.map fun v => v.category).sum + 14 ≤ R.locals) (hc : cells + 1 ≤ R.cells) (hs : slots + 2056 ≤ R.slots) (hdg : decode cc pc = .ok (.invokevirtual idx, 3))
    (kk : ∀ (q : Nat) (H1 : Heap), hW D cy ad b μ P (T ++ [(q, .inl (cy 2, n0, .inl (sby S)))]) H1 → va_S (hA b) s.heap H1 locs → W p l e R s m args below meth c H1 locs (cells + 1) (slots + 2056) Q (F0 m (pc + 3) ls (.ref q :: rest))) : W p l e R s m args below meth c H locs cells slots Q (F0 m pc ls (.ref va :: rest)) := by
  obtain ⟨q0, hv⟩ := List.getElem?_of_mem hv
  have hf : s.vm.findClass "[B" = some (cy 2) := (E.1.1.2 2 (cy 2, .byte) rfl).2
  refine va_clone hx hb hml hown (E.kw hl) (E.kw kz_615) (E.kw kw_616) (E.kw kw_617) (E.kw kw_618) E.2.2.2.2.2.2.2.2.2.2.2.2.2.2.2.2.2.1 E.1.1 hM.1 hM.2 hS (fun q h => Nat.le_trans E.2.2.1 h) q0 2 hv rfl hf (fun i v hv => ?_) hRf hRl hc (by show slots + n0 ≤ _; omega) hdg (fun q H1 hK1 hP1 hD1 hS1 => ?_)
  · have h9 : (arrV (cy 2) n0 (fun j => Value.int (sby S j))).slots[i]? = some v := hv
    obtain ⟨x, rfl⟩ : ∃ x : Nat, v = .int (sb_b x) := by
      unfold arrV at h9
      rw [Array.getElem?_ofFn] at h9
      split at h9
      · exact ⟨_, (Option.some.inj h9).symm⟩
      · cases h9
    exact sb_fitB x
  · refine W.widen (Nat.le_refl _) (by show slots + n0 ≤ _; omega) (kk q H1 ?_ hS1)
    have e3 := ht_push (cy := cy) (ad := ad) (μ := μ) (P := P) (T := T) (x := (q, .inl (cy 2, (n0, .inl (sby S)))))
    rw [e3] at hP1 hD1
    exact ⟨hP1, hD1⟩
end BROWS

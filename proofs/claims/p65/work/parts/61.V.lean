section HAST
variable {p : Program} {l : Launch} {e : Env} {R : Room} {s : State} {m : MethodId} {args : Array Value} {below : List Frame} {meth : Method} {c : Code} {H : Heap} {locs : List Loc} {cells slots : Nat} {Q : State → Prop}
variable {cc : ByteArray} {pc : Nat} {ls : Array Slot} {rest : List Value} {D : va_G} {cy : Nat → ClassId} {ad : Nat → Nat} {b a : Nat} {μ : gM} {P T : va_W} {own : String}
/-- a row of ints goes into a row of references -/
theorem h_astA (hx : p.tables.exec = Jvm.exec) (hb : c.code = cc) (E : hE l D cy ad b s) (hM : hW D cy ad b μ P T H) (hS : va_S (hA b) s.heap H locs) {j n v k : Nat} {g : Nat → Option Nat} {f : Nat → Int32} (ha : T[j]? = some (a, .inl (cy 4, n, .inr (.inr (.inr (.inr g)))))) (hv : (v, .inl (cy 0, k, .inl f)) ∈ hws cy ad μ P T) {i : Int32} (hin : gIn i n) (hdg : decode cc pc = .ok (.aastore, 1))
    (kk : ∀ (H1 : Heap) (locs1 : List Loc), hW D cy ad b μ P (T.set j (a, .inl (cy 4, n, .inr (.inr (.inr (.inr (va_up g i.toNatClampNeg (some v)))))))) H1 → va_S (hA b) s.heap H1 locs1 → W p l e R s m args below meth c H1 locs1 cells slots Q (F0 m (pc + 1) ls rest)) : W p l e R s m args below meth c H locs cells slots Q (F0 m pc ls (.ref v :: .int i :: .ref a :: rest)) := by
  obtain ⟨qk, hv⟩ := List.getElem?_of_mem hv
  have hc : H[v]? = some (vp_cell (cy 0) (k, .inl f)) := hM.1 qk _ hv
  have hf : s.vm.findClass "[I" = some (cy 0) := (E.1.1.2 0 (cy 0, .int) rfl).2
  obtain ⟨kC, hkC, -⟩ := Vm.findClass_spec hf
  refine va_astqM (E := "java/lang/Object") hx hb E.1.1 hM.1 hM.2 hS (60 + (P.length + j)) 4 (ht_at ha) rfl ⟨_, hc, rfl, ⟨kC, hkC⟩, fun comp hcomp => ?_⟩ (gIn_v hin) hdg (fun H1 locs1 hP1 hD1 hS1 => kk H1 locs1 (h_T hP1 hD1) hS1)
  exact vb_asgC (E.2.1.2.2.2.1 _ (List.mem_of_getElem? (i := 2) rfl)) comp (cy 0) hcomp hf
end HAST

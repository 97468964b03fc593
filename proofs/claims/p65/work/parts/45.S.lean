theorem hE.x {l : Launch} {D : va_G} {cy : Nat → ClassId} {ad : Nat → Nat} {b : Nat} {s : State} (E : hE l D cy ad b s) : hX ad b s := E.2.2.2.2.2.2.2.2.2.2.2.2.2.2.2.2
theorem x_toInt {a : Nat} (h : a < 2 ^ 31) : (nI a).toInt = (a : Int) := by
  have h1 := nI_clamp h
  have h2 : ¬ nI a < 0 := nI_pos h
  have h3 : (0 : Int) ≤ (nI a).toInt := by
    have := Int32.not_lt.mp h2
    simpa using Int32.le_iff_toInt_le.mp this
  have h4 : (nI a).toInt.toNat = a := h1
  omega
theorem x_sub {a b : Nat} (h : b ≤ a) : nI a - nI b = nI (a - b) := by
  have h1 : nI a = nI (a - b) + nI b := by rw [nI_add]; congr 1; omega
  rw [h1, Int32.add_sub_cancel]
theorem x_max {a b : Nat} (ha : a < 2 ^ 31) (hb : b < 2 ^ 31) : (if nI a < nI b then nI b else nI a) = nI (max a b) := by
  by_cases h : a < b
  · rw [if_pos (nI_lt h hb), Nat.max_eq_right (by omega)]
  · rw [if_neg (nI_nlt (by omega) ha), Nat.max_eq_left (by omega)]
theorem x_min {a b : Nat} (ha : a < 2 ^ 31) (hb : b < 2 ^ 31) : (if nI b < nI a then nI b else nI a) = nI (min a b) := by
  by_cases h : b < a
  · rw [if_pos (nI_lt h ha), Nat.min_eq_right (by omega)]
  · rw [if_neg (nI_nlt (by omega) hb), Nat.min_eq_left (by omega)]
theorem x_suble {q m : Nat} (h : q ≤ m) (hm : m < 2 ^ 30) : nI q - nI m ≤ 0 := by
  rw [Int32.le_iff_toInt_le, Int32.toInt_sub, x_toInt (by omega), x_toInt (by omega)]
  rw [Int.bmod_eq_of_le (by omega) (by omega)]
  show (q : Int) - (m : Int) ≤ 0
  omega
theorem x_subgt {q m : Nat} (h : m < q) (hm : q < 2 ^ 31) : ¬ nI q - nI m ≤ 0 := by
  rw [x_sub (by omega)]
  intro hh
  have h2 := (Int32.le_iff_toInt_le.mp hh)
  rw [x_toInt (by omega)] at h2
  have h3 : (0 : Int32).toInt = 0 := rfl
  omega
section NRET
variable {p : Program} {l : Launch} {e : Env} {R : Room} {s : State} {m : MethodId} {args : Array Value} {below : List Frame} {meth : Method} {c : Code} {H : Heap} {locs : List Loc} {cells slots : Nat}
variable {cc : ByteArray} {pc : Nat} {ls : Array Slot} {b : Nat} {mc ms : Nat} {Z : Option Value → Heap → Prop}
theorem h_nret {v : Int32} {ty : FieldType} (hx : p.tables.exec = Jvm.exec) (hb : c.code = cc) (hr : meth.sig.returnType = some ty) (hlocks : meth.locks = false) (h1 : cells ≤ mc) (h2 : slots ≤ ms) (hn : narrow ty (.int v) = .int v) (hz : Z (some (.int v)) H) (hS : va_S (hA b) s.heap H locs) (hdg : decode cc pc = .ok (.ireturn, 1)) : W p l e R s m args below meth c H locs cells slots (MQ below (hQ b Z) args s mc ms (hA b)) (F0 m pc ls [.int v]) :=
  W.widen h1 h2 (W.zret hx hb hr hn (fun t ht hW => ⟨⟨_, rfl, by rw [ht]; exact hz⟩, by rw [ht]; exact hS.1, by rw [ht]; exact hS.2.1⟩) hS.2.2 hdg hlocks)
end NRET
theorem h_castY2 {p : Program} {l : Launch} {e : Env} {R : Room} {s : State} {m : MethodId} {args : Array Value} {below : List Frame} {meth : Method} {c : Code} {H : Heap} {locs : List Loc} {cells slots : Nat} {Q : State → Prop} {cc : ByteArray} {pc : Nat} {ls : Array Slot} {rest : List Value} {D : va_G} {cy : Nat → ClassId} {ad : Nat → Nat} {b a : Nat} {μ : gM} {P T : va_W} {own : String} (hx : p.tables.exec = Jvm.exec) (hb : c.code = cc) (hown : s.vm.findClass own = some m.cls) (E : hE l D cy ad b s) (hM : hW D cy ad b μ P T H) {idx n : Nat} {g : Nat → Int32} (ha : (a, .inl (cy 2, n, .inl g)) ∈ hws cy ad μ P T) (hcl : gw (.classLink own idx "[B")) (hdg : decode cc pc = .ok (.checkcast idx, 3))
    (kk : W p l e R s m args below meth c H locs cells slots Q (F0 m (pc + 3) ls (.ref a :: rest))) : W p l e R s m args below meth c H locs cells slots Q (F0 m pc ls (.ref a :: rest)) := by
  obtain ⟨k, ha⟩ := List.getElem?_of_mem ha
  exact va_castA hx hb hown (E.kw hcl) hM.1 k ha ((E.1.1.2 2 (cy 2, .byte) rfl).2) hdg kk

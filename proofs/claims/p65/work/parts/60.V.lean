/-! the heights come and go; a setup is added to a list -/
def lset (la : Nat → Nat → Nat) (k i a : Nat) : Nat → Nat → Nat := fun x y => if x = k ∧ y = i then a else la x y
theorem lset_ne {la : Nat → Nat → Nat} {k i a x : Nat} (h : x ≠ k) : lset la k i a x = la x := by
  funext y
  unfold lset
  rw [if_neg (fun q => h q.1)]
theorem lset_ne2 {la : Nat → Nat → Nat} {k i a x y : Nat} (h : ¬ (x = k ∧ y = i)) : lset la k i a x y = la x y := if_neg h
theorem lset_eq {la : Nat → Nat → Nat} {k i a : Nat} : lset la k i a k i = a := if_pos ⟨rfl, rfl⟩
def lAgH (ν ν' : gM) : Prop := (∀ x, x ≠ 0 → ν'.1 x = ν.1 x) ∧ ∀ i, i ≠ 10 → ν'.1 0 i = ν.1 0 i
def lkM (ν : gM) : List (Nat × Nat) := [(1, 0), (2, 0), (3, 0), (4, 0), (5, 0), (6, 0), (8, 0)] ++ (lk4 ν ++ (List.range (lLs ν)).flatMap (lk2 ν))
theorem lkeys_M {ν : gM} : lkeys ν = (0, 0) :: (lkM ν ++ lk3 ν) := by
  unfold lkeys lkM lk1
  rw [List.append_assoc, List.append_assoc]
  rfl
section LAGH
variable {cy : Nat → ClassId} {ad : Nat → Nat} {la : Nat → Nat → Nat} {ν ν' : gM} {a : Nat}
theorem lAgH.ln (h : lAgH ν ν') : lLn ν' = lLn ν := by unfold lLn gi; rw [h.2 2 (by decide)]
theorem lAgH.pt (h : lAgH ν ν') : lPt ν' = lPt ν := by unfold lPt gi; rw [h.2 1 (by decide)]
theorem lAgH.ls (h : lAgH ν ν') : lLs ν' = lLs ν := by unfold lLs gi; rw [h.1 6 (by decide)]
theorem lAgH.sz (h : lAgH ν ν') (k : Nat) : lSz ν' k = lSz ν k := by unfold lSz gi; rw [h.1 (40 + k) (by omega)]
theorem lAgH.kM (h : lAgH ν ν') : lkM ν' = lkM ν := by
  unfold lkM lk4
  rw [h.ln, h.ls]
  congr 2
  refine congrArg List.flatten (List.map_congr_left (fun k _ => ?_))
  unfold lk2
  rw [h.sz]
theorem lAgH.S (h : lAgH ν ν') (hs : lS ν) : lS ν' := by
  obtain ⟨⟨a1, a2⟩, ⟨b1, b2⟩, ⟨c0, c1, c2, c3⟩, d⟩ := hs
  refine ⟨⟨by rw [h.ln]; exact a1, ?_⟩, ⟨by rw [h.pt]; exact b1, ?_⟩, ⟨by rw [h.ls]; exact c0, ?_, ?_, ?_⟩, fun k hk => ?_⟩
  · rw [h.ln]; unfold gi; rw [h.2 2 (by decide)]; exact a2
  · rw [h.pt]; unfold gi; rw [h.2 1 (by decide)]; exact b2
  · rw [h.ls]; unfold gi; rw [h.1 7 (by decide)]; exact c1
  · unfold gi; rw [h.1 7 (by decide)]; exact c2
  · rw [h.ls]; unfold gi; rw [h.1 6 (by decide)]; exact c3
  · rw [h.ls] at hk; rw [h.sz]; exact d k hk
theorem lAgH.F (h : lAgH ν ν') (hf : lF ν) : lF ν' := by
  obtain ⟨f1, f2, f3⟩ := hf
  exact ⟨by rw [h.ls, h.ln]; exact f1, by rw [h.ln]; exact f2, fun k hk => by rw [h.ln] at hk; rw [h.sz]; exact f3 k hk⟩
theorem lkM_ne {q : Nat × Nat} (hq : q ∈ lkM ν) : q.1 ≠ 0 ∧ q.1 ≠ 9 := by
  unfold lkM lk4 at hq
  rcases List.mem_append.mp hq with h | h
  · simp only [List.mem_cons, List.not_mem_nil, or_false] at h
    rcases h with rfl | rfl | rfl | rfl | rfl | rfl | rfl <;> exact ⟨by decide, by decide⟩
  · rcases List.mem_append.mp h with h | h
    · rcases List.mem_append.mp h with h | h
      · by_cases c : lLs ν = 0
        · rw [if_pos c] at h; exact absurd h List.not_mem_nil
        · rw [if_neg c] at h; rw [List.mem_singleton.mp h]; exact ⟨by decide, by decide⟩
      · obtain ⟨k, -, rfl⟩ := List.mem_map.mp h
        exact ⟨by show 20 ≠ 0; omega, by show 20 ≠ 9; omega⟩
    · obtain ⟨k, -, h⟩ := List.mem_flatMap.mp h
      unfold lk2 at h
      rcases List.mem_cons.mp h with rfl | h
      · exact ⟨by show 40 ≠ 0; omega, by show 40 ≠ 9; omega⟩
      · rcases List.mem_append.mp h with h | h
        · by_cases c : lSz ν k = 0
          · rw [if_pos c] at h; exact absurd h List.not_mem_nil
          · rw [if_neg c] at h; rw [List.mem_singleton.mp h]; exact ⟨by show 60 ≠ 0; omega, by show 60 ≠ 9; omega⟩
        · obtain ⟨i, -, rfl⟩ := List.mem_map.mp h
          exact ⟨by show 100 + k ≠ 0; omega, by show 100 + k ≠ 9; omega⟩
theorem lAgH.cell (h : lAgH ν ν') {q : Nat × Nat} (hq : q ∈ lkM ν) : lcell cy ad (lset la 9 0 a) ν' q = lcell cy ad la ν q := by
  obtain ⟨h0, h9⟩ := lkM_ne hq
  unfold lcell
  rw [lset_ne h9]
  congr 1
  unfold lE
  rw [h.ln, h.pt, h.ls, h.sz, lset_ne (by decide), lset_ne (by decide), lset_ne (by decide), lset_ne (by decide), lset_ne (show 100 + q.2 ≠ 9 by omega)]
  unfold gi
  rw [h.1 1 (by decide), h.1 2 (by decide), h.1 4 (by decide), h.1 5 (by decide), h.1 6 (by decide), h.1 7 (by decide), h.1 8 (by decide), h.1 (20 + q.2) (by omega), h.1 (40 + q.2) (by omega), h.1 (100 + 8 * (q.1 - 100) + q.2) (by omega)]
  rw [if_neg h0, if_neg h0]
  by_cases c1 : q.1 = 1
  · rw [if_pos c1, if_pos c1]
  rw [if_neg c1, if_neg c1]
  by_cases c2 : q.1 = 2
  · rw [if_pos c2, if_pos c2]
  rw [if_neg c2, if_neg c2]
  by_cases c3 : q.1 = 3
  · rw [if_pos c3, if_pos c3]
  rw [if_neg c3, if_neg c3]
  by_cases c4 : q.1 = 4
  · rw [if_pos c4, if_pos c4]
  rw [if_neg c4, if_neg c4]
  by_cases c5 : q.1 = 5
  · rw [if_pos c5, if_pos c5]
  rw [if_neg c5, if_neg c5]
  by_cases c6 : q.1 = 6
  · rw [if_pos c6, if_pos c6]
  rw [if_neg c6, if_neg c6]
  by_cases c7 : q.1 = 7
  · rw [if_pos c7, if_pos c7]
  rw [if_neg c7, if_neg c7]
  by_cases c8 : q.1 = 8
  · rw [if_pos c8, if_pos c8]
  rw [if_neg c8, if_neg c8, if_neg h9, if_neg h9]
end LAGH
section LHV
variable {p : Program} {l : Launch} {e : Env} {R : Room} {s : State} {m : MethodId} {args : Array Value} {below : List Frame} {meth : Method} {c : Code} {H : Heap} {locs : List Loc} {cells slots : Nat} {Q : State → Prop}
variable {cc : ByteArray} {pc : Nat} {ls : Array Slot} {rest : List Value} {D : va_G} {cy : Nat → ClassId} {ad : Nat → Nat} {la : Nat → Nat → Nat} {b a : Nat} {μ ν : gM} {T : va_W} {own : String}
theorem lAgH_n : lAgH ν (si ν 0 10 0) := ⟨fun x hx => (lAg_si x hx).1, fun i hi => by
  show (if 0 = 0 ∧ i = 10 then _ else _) = _
  rw [if_neg (fun q => hi q.2)]⟩
theorem lAgH_s {f : Nat → Int64} : lAgH ν (sll (si ν 0 10 1) 9 f) := ⟨fun x hx => (lAg_si x hx).1, fun i hi => by
  show (if 0 = 0 ∧ i = 10 then _ else _) = _
  rw [if_neg (fun q => hi q.2)]⟩
/-- the heights are forgotten -/
theorem lw_hnull (hx : p.tables.exec = Jvm.exec) (hb : c.code = cc) (hown : s.vm.findClass own = some m.cls) (E : hE l D cy ad b s) (hM : hW D cy ad b μ (lws cy ad la ν) T H) (hS : va_S (hA b) s.heap H locs) {idx : Nat} (hl : gw (.fieldLink own idx RX8 "heights" "[J")) (hdg : decode cc pc = .ok (.putfield idx, 3))
    (kk : ∀ (H1 : Heap) (locs1 : List Loc), hW D cy ad b μ (lws cy ad la (si ν 0 10 0)) T H1 → va_S (hA b) s.heap H1 locs1 → W p l e R s m args below meth c H1 locs1 cells slots Q (F0 m (pc + 3) ls rest)) : W p l e R s m args below meth c H locs cells slots Q (F0 m pc ls (.null :: .ref (la 0 0) :: rest)) := by
  have e0 : lws cy ad la ν = lcell cy ad la ν (0, 0) :: ((lkM ν).map (lcell cy ad la ν) ++ (lk3 ν).map (lcell cy ad la ν)) := by
    unfold lws; rw [lkeys_M, List.map_cons, List.map_append]
  have hM0 : hW D cy ad b μ ((lkM ν).map (lcell cy ad la ν) ++ (lk3 ν).map (lcell cy ad la ν)) (lcell cy ad la ν (0, 0) :: T) H := by
    refine hW.perm ?_ hM
    rw [e0]
    exact List.perm_middle.symm
  refine h_put (j := 0) (v := .null) (ty := .array .long) hx hb hown E hM0 hS rfl gC_X8 10 (by decide) rfl (tyX8_ok 10 (by decide)) rfl rfl hl (Nat.le_of_ble_eq_true rfl) hdg (fun H1 locs1 hM1 hS1 => kk H1 locs1 (hW.sub ⟨(lk3 ν).map (lcell cy ad la ν), ?_⟩ hM1) hS1)
  have e1 : lws cy ad la (si ν 0 10 0) = lcell cy ad la (si ν 0 10 0) (0, 0) :: (lkM ν).map (lcell cy ad la ν) := by
    unfold lws
    rw [lkeys_M, lAgH_n.kM, show lk3 (si ν 0 10 0) = [] from if_pos rfl, List.append_nil, List.map_cons]
    congr 1
    apply List.map_congr_left
    intro q hq
    have h9 := lAgH_n.cell (cy := cy) (ad := ad) (la := la) (a := la 9 0) (ν := ν) hq
    rwa [show lset la 9 0 (la 9 0) = la from by
      funext x y; unfold lset; by_cases hxy : x = 9 ∧ y = 0
      · rw [if_pos hxy, hxy.1, hxy.2]
      · rw [if_neg hxy]] at h9
  rw [e1]
  have e2 : lcell cy ad la (si ν 0 10 0) (0, 0) = (la 0 0, .inr (8, ([.ref (ad 0), .int (gi ν 0 1), .int (gi ν 0 2), .ref (la 1 0), .ref (la 2 0), .ref (la 3 0), .ref (la 4 0), .ref (la 5 0), .ref (la 6 0), .ref (la 8 0), lHv la ν, .int (gi ν 0 11)] : List Value).set 10 .null)) := rfl
  rw [e2]
  show ((_ ++ _) ++ (_ :: T)).Perm (((_ :: _) ++ T) ++ _)
  rw [List.append_assoc, List.cons_append, List.cons_append]
  refine (List.Perm.append_left _ List.perm_middle).trans ?_
  refine List.perm_middle.trans (List.Perm.cons _ ?_)
  rw [List.append_assoc]
  exact List.Perm.append_left _ List.perm_append_comm
/-- a row at hand becomes the heights -/
theorem lw_hset (hx : p.tables.exec = Jvm.exec) (hb : c.code = cc) (hown : s.vm.findClass own = some m.cls) (E : hE l D cy ad b s) {f : Nat → Int64} (hM : hW D cy ad b μ (lws cy ad la ν) ((a, .inl (cy 1, lPt ν, .inr (.inl f))) :: T) H) (hS : va_S (hA b) s.heap H locs) {idx : Nat} (hl : gw (.fieldLink own idx RX8 "heights" "[J")) (hdg : decode cc pc = .ok (.putfield idx, 3))
    (kk : ∀ (H1 : Heap) (locs1 : List Loc), hW D cy ad b μ (lws cy ad (lset la 9 0 a) (sll (si ν 0 10 1) 9 f)) T H1 → va_S (hA b) s.heap H1 locs1 → W p l e R s m args below meth c H1 locs1 cells slots Q (F0 m (pc + 3) ls rest)) : W p l e R s m args below meth c H locs cells slots Q (F0 m pc ls (.ref a :: .ref (la 0 0) :: rest)) := by
  have e0 : lws cy ad la ν = lcell cy ad la ν (0, 0) :: ((lkM ν).map (lcell cy ad la ν) ++ (lk3 ν).map (lcell cy ad la ν)) := by
    unfold lws; rw [lkeys_M, List.map_cons, List.map_append]
  have hM0 : hW D cy ad b μ ((lkM ν).map (lcell cy ad la ν) ++ (lk3 ν).map (lcell cy ad la ν)) (lcell cy ad la ν (0, 0) :: (a, .inl (cy 1, lPt ν, .inr (.inl f))) :: T) H := by
    refine hW.perm ?_ hM
    rw [e0]
    exact List.perm_middle.symm
  refine h_put (j := 0) (v := .ref a) (ty := .array .long) hx hb hown E hM0 hS rfl gC_X8 10 (by decide) rfl (tyX8_ok 10 (by decide)) rfl rfl hl (Nat.le_of_ble_eq_true rfl) hdg (fun H1 locs1 hM1 hS1 => kk H1 locs1 (hW.sub ⟨(lk3 ν).map (lcell cy ad la ν), ?_⟩ hM1) hS1)
  have e1 : lws cy ad (lset la 9 0 a) (sll (si ν 0 10 1) 9 f) = lcell cy ad (lset la 9 0 a) (sll (si ν 0 10 1) 9 f) (0, 0) :: ((lkM ν).map (lcell cy ad la ν) ++ [(a, .inl (cy 1, lPt ν, .inr (.inl f)))]) := by
    unfold lws
    rw [lkeys_M, lAgH_s.kM, show lk3 (sll (si ν 0 10 1) 9 f) = [(9, 0)] from if_neg (by show ¬ (if 0 = 0 ∧ 10 = 10 then (1 : Int32) else ν.1 0 10) = 0; rw [if_pos ⟨rfl, rfl⟩]; decide), List.map_cons, List.map_append]
    congr 1
    congr 1
    apply List.map_congr_left
    intro q hq
    exact lAgH_s.cell hq
  rw [e1]
  have e2 : lcell cy ad (lset la 9 0 a) (sll (si ν 0 10 1) 9 f) (0, 0) = (la 0 0, .inr (8, ([.ref (ad 0), .int (gi ν 0 1), .int (gi ν 0 2), .ref (la 1 0), .ref (la 2 0), .ref (la 3 0), .ref (la 4 0), .ref (la 5 0), .ref (la 6 0), .ref (la 8 0), lHv la ν, .int (gi ν 0 11)] : List Value).set 10 (.ref a))) := rfl
  rw [e2]
  show ((_ ++ _) ++ (_ :: _ :: T)).Perm (((_ :: (_ ++ [_])) ++ T) ++ _)
  rw [List.append_assoc, List.cons_append, List.cons_append]
  refine (List.Perm.append_left _ List.perm_middle).trans ?_
  refine List.perm_middle.trans (List.Perm.cons _ ?_)
  rw [List.append_assoc, List.append_assoc]
  refine List.Perm.append_left _ ?_
  refine List.perm_append_comm.trans ?_
  rfl
end LHV

/-! a line's ends and level are written -/
section LWL
variable {p : Program} {l : Launch} {e : Env} {R : Room} {s : State} {m : MethodId} {args : Array Value} {below : List Frame} {meth : Method} {c : Code} {H : Heap} {locs : List Loc} {cells slots : Nat} {Q : State → Prop}
variable {cc : ByteArray} {pc : Nat} {ls : Array Slot} {rest : List Value} {D : va_G} {cy : Nat → ClassId} {ad : Nat → Nat} {la : Nat → Nat → Nat} {b a : Nat} {μ ν : gM} {P T : va_W} {own : String}
theorem lw_ends (hx : p.tables.exec = Jvm.exec) (hb : c.code = cc) (E : hE l D cy ad b s) (hs : lS ν) (hM : hW D cy ad b μ (lws cy ad la ν) T H) (hS : va_S (hA b) s.heap H locs) {k : Nat} (hk : k < lLn ν) {i x : Int32} (hin : gIn i 2) (hdg : decode cc pc = .ok (.iastore, 1))
    (kk : ∀ (H1 : Heap) (locs1 : List Loc), hW D cy ad b μ (lws cy ad la (si ν (20 + k) i.toNatClampNeg x)) T H1 → va_S (hA b) s.heap H1 locs1 → W p l e R s m args below meth c H1 locs1 cells slots Q (F0 m (pc + 1) ls rest)) : W p l e R s m args below meth c H locs cells slots Q (F0 m pc ls (.int x :: .int i :: .ref (la 20 k) :: rest)) := by
  have hL := hs.1.1
  exact lw_iast (k := (20, k)) (id := 20 + k) hx hb E hs hM hS (lkeys_mem.mpr (Or.inr (Or.inl ⟨rfl, hk⟩))) (by unfold okid; omega) (by
    unfold kid
    rw [if_neg (by show ¬ 20 < 10; omega), if_pos (by show 20 < 100; omega)]) (fun _ _ => rfl) hin hdg kk
theorem lw_level (hx : p.tables.exec = Jvm.exec) (hb : c.code = cc) (E : hE l D cy ad b s) (hs : lS ν) (hM : hW D cy ad b μ (lws cy ad la ν) T H) (hS : va_S (hA b) s.heap H locs) {i x : Int32} (hin : gIn i (lLn ν)) (hdg : decode cc pc = .ok (.iastore, 1))
    (kk : ∀ (H1 : Heap) (locs1 : List Loc), hW D cy ad b μ (lws cy ad la (si ν 4 i.toNatClampNeg x)) T H1 → va_S (hA b) s.heap H1 locs1 → W p l e R s m args below meth c H1 locs1 cells slots Q (F0 m (pc + 1) ls rest)) : W p l e R s m args below meth c H locs cells slots Q (F0 m pc ls (.int x :: .int i :: .ref (la 4 0) :: rest)) :=
  lw_iast (k := (4, 0)) (id := 4) hx hb E hs hM hS (lkeys_mem.mpr (Or.inl ⟨by decide, rfl, fun h => absurd h (by decide)⟩)) (by unfold okid; omega) rfl (fun ν' h => by
    show Sum.inl (cy 0, lLn ν', Sum.inl (ν'.1 4)) = _
    rw [h]) hin hdg kk
theorem lw_isRead (hx : p.tables.exec = Jvm.exec) (hb : c.code = cc) (hown : s.vm.findClass own = some m.cls) (E : hE l D cy ad b s) (hM : hW D cy ad b μ (lws cy ad la ν) T H) (hS : va_S (hA b) s.heap H locs) {x : Int32} (hz : gBool x) {idx : Nat} (hl : gw (.fieldLink own idx RX8 "isRead" "Z")) (hdg : decode cc pc = .ok (.putfield idx, 3))
    (kk : ∀ (H1 : Heap) (locs1 : List Loc), hW D cy ad b μ (lws cy ad la (si ν 0 11 x)) T H1 → va_S (hA b) s.heap H1 locs1 → W p l e R s m args below meth c H1 locs1 cells slots Q (F0 m (pc + 3) ls rest)) : W p l e R s m args below meth c H locs cells slots Q (F0 m pc ls (.int x :: .ref (la 0 0) :: rest)) := by
  have hag : ∀ y, y ≠ 0 → (si ν 0 11 x).1 y = ν.1 y := fun y hy => (lAg_si y hy).1
  have h0 : ∀ i, i ≠ 11 → (si ν 0 11 x).1 0 i = ν.1 0 i := fun i hi => by
    show (if 0 = 0 ∧ i = 11 then _ else _) = _
    rw [if_neg (fun q => hi q.2)]
  have hln : lLn (si ν 0 11 x) = lLn ν := by unfold lLn gi; rw [h0 2 (by decide)]
  have hpt : lPt (si ν 0 11 x) = lPt ν := by unfold lPt gi; rw [h0 1 (by decide)]
  have hls : lLs (si ν 0 11 x) = lLs ν := by unfold lLs gi; rw [hag 6 (by decide)]
  have hsz : ∀ j, lSz (si ν 0 11 x) j = lSz ν j := fun j => by unfold lSz gi; rw [hag (40 + j) (by omega)]
  have hfl : gi (si ν 0 11 x) 0 10 = gi ν 0 10 := h0 10 (by decide)
  have hM4 : lkM (si ν 0 11 x) = lkM ν := by
    unfold lkM lk4
    rw [hln, hls]
    congr 2
    refine congrArg List.flatten (List.map_congr_left (fun j _ => ?_))
    unfold lk2
    rw [hsz]
  have hk3 : lk3 (si ν 0 11 x) = lk3 ν := by unfold lk3; rw [hfl]
  have hcell : ∀ q : Nat × Nat, q.1 ≠ 0 → lcell cy ad la (si ν 0 11 x) q = lcell cy ad la ν q := fun q hq => by
    unfold lcell lE
    rw [hln, hpt, hls, hsz]
    unfold gi
    rw [hag 1 (by decide), hag 2 (by decide), hag 4 (by decide), hag 5 (by decide), hag 6 (by decide), hag 7 (by decide), hag 8 (by decide), hag (20 + q.2) (by omega), hag (40 + q.2) (by omega), hag (100 + 8 * (q.1 - 100) + q.2) (by omega)]
    rw [if_neg hq, if_neg hq]
    rfl
  have e0 : lws cy ad la ν = lcell cy ad la ν (0, 0) :: ((lkM ν).map (lcell cy ad la ν) ++ (lk3 ν).map (lcell cy ad la ν)) := by
    unfold lws; rw [lkeys_M, List.map_cons, List.map_append]
  have hM0 : hW D cy ad b μ ((lkM ν).map (lcell cy ad la ν) ++ (lk3 ν).map (lcell cy ad la ν)) (lcell cy ad la ν (0, 0) :: T) H := by
    refine hW.perm ?_ hM
    rw [e0]
    exact List.perm_middle.symm
  have hnar : vp_nar .boolean x = x := by rcases hz with rfl | rfl <;> rfl
  refine h_put (j := 0) (v := .int x) (ty := .boolean) hx hb hown E hM0 hS rfl gC_X8 11 (by decide) rfl (tyX8_ok 11 (by decide)) (by rcases hz with rfl | rfl <;> rfl) (by rcases hz with rfl | rfl <;> rfl) hl (Nat.le_of_ble_eq_true rfl) hdg (fun H1 locs1 hM1 hS1 => kk H1 locs1 (hW.perm ?_ hM1) hS1)
  have e1 : lws cy ad la (si ν 0 11 x) = lcell cy ad la (si ν 0 11 x) (0, 0) :: ((lkM ν).map (lcell cy ad la ν) ++ (lk3 ν).map (lcell cy ad la ν)) := by
    unfold lws
    rw [lkeys_M, hM4, hk3, List.map_cons, List.map_append]
    congr 2
    · exact List.map_congr_left (fun q hq => hcell q (lkM_ne hq).1)
    · refine List.map_congr_left (fun q hq => hcell q ?_)
      unfold lk3 at hq
      by_cases c : gi ν 0 10 = 0
      · rw [if_pos c] at hq; exact absurd hq List.not_mem_nil
      · rw [if_neg c] at hq; rw [List.mem_singleton.mp hq]; exact (by decide : (9 : Nat) ≠ 0)
  have e2 : lcell cy ad la (si ν 0 11 x) (0, 0) = (la 0 0, .inr (8, ([.ref (ad 0), .int (gi ν 0 1), .int (gi ν 0 2), .ref (la 1 0), .ref (la 2 0), .ref (la 3 0), .ref (la 4 0), .ref (la 5 0), .ref (la 6 0), .ref (la 8 0), lHv la ν, .int (gi ν 0 11)] : List Value).set 11 (.int x))) := rfl
  rw [e1, e2]
  exact List.perm_middle
end LWL

/-! calls of ArrayList.add on the law's own lists -/
section ADDL
variable {p : Program} {l : Launch} {e : Env} {R : Room} {s : State} {m : MethodId} {args : Array Value} {below : List Frame} {meth : Method} {c : Code} {H : Heap} {locs : List Loc} {cells slots : Nat} {Q : State → Prop}
variable {cc : ByteArray} {pc idx : Nat} {ls : Array Slot} {rest st : List Value} {D : va_G} {cy : Nat → ClassId} {ad : Nat → Nat} {la : Nat → Nat → Nat} {b a k : Nat} {μ ν : gM} {P T A B C : va_W} {own : String} {g : Nat → Int32}
theorem hW.cutM (h : hW D cy ad b μ P (A ++ (B ++ C)) H) : hW D cy ad b μ P (A ++ C) H := by
  refine hW.sub ⟨B, ?_⟩ h
  rw [List.append_assoc, List.append_assoc]
  exact List.Perm.append_left _ (List.Perm.append_left _ List.perm_append_comm)
theorem hW.cut0 (h : hW D cy ad b μ P (B ++ C) H) : hW D cy ad b μ P C H := hW.cutM (A := []) h
theorem x_i2c {x : Int32} (h : gIn x 256) : (x.toUInt32 % 65536).toInt32 = x := by
  rw [gIn_e h]
  exact (sb_byte _ h.2).2.1
theorem lrK_40 {i : Nat} (h : i < lLs ν) : (40, i) ∈ lrK ν := List.mem_append_right _ (List.mem_append_right _ (List.mem_append_left _ (List.mem_flatMap.mpr ⟨i, List.mem_range.mpr h, List.mem_cons_self⟩)))
theorem lw_addL (hx : p.tables.exec = Jvm.exec) (hb : c.code = cc) (hml : c.maxLocals = ls.size) (hown : s.vm.findClass own = some m.cls) (E : hE l D cy ad b s) (hs : lS ν) (hn : lLs ν < 11) (hcap : lLs ν ≠ 0 → (gi ν 7 0).toNatClampNeg = 10)
    (hM : hW D cy ad b μ (lws cy ad la ν) ((a, .inr (13, [.int (0 : Int32), .ref (ad 461), .int (0 : Int32)])) :: T) H) (hS : va_S (hA b) s.heap H locs) (hl : gw (.methodLink own idx yJx4a65c_add_9ea2d)) (hst : st = .ref a :: .ref (la 6 0) :: rest) (hroom : (rest.map fun v => v.category).sum ≤ 8) (hR : 7 ≤ R.frames ∧ 171 ≤ R.locals) (hcs : cells + 1 ≤ R.cells ∧ slots + 15 ≤ R.slots) (hdg : decode cc pc = .ok (.invokevirtual idx, 3))
    (kk : ∀ (ar : Nat) (H1 : Heap) (locs1 : List Loc), hW D cy ad b μ (lws cy ad (lset (lset la 40 (lLs ν) a) 7 0 ar) (lnew ν (if lLs ν = 10 then 15 else 10))) T H1 → va_S (hA b) s.heap H1 locs1 → W p l e R s m args below meth c H1 locs1 (cells + 1) (slots + 15) Q (F0 m (pc + 3) ls (.int 1 :: rest))) : W p l e R s m args below meth c H locs cells slots Q (F0 m pc ls st) := by
  by_cases h0 : lLs ν = 0
  · have e9 : (if lLs ν = 10 then 15 else 10) = 10 := if_neg (by omega)
    rw [e9] at kk
    refine h_callV (As := [.ref a]) (rest := rest) hx hb hml hown E (lnew_pre0 h0 hM) hS xy_Jx4a65c_add_9ea2d hl (c_add0O (List.mem_append_right _ List.mem_cons_self)) (ht_m List.mem_cons_self) gC_Jx4a65c.1 rfl hst hroom ⟨by omega, by omega⟩ ⟨hcs.1, by omega⟩ hdg (fun rv H1 locs1 hZ hS1 => ?_)
    obtain ⟨ar, rfl, hM1⟩ := hZ
    exact W.widen (Nat.le_refl _) (by omega) (kk ar H1 locs1 (lnew_post hs hn (by omega) (by rw [h0, ← lRf_0]; exact hM1)) hS1)
  · by_cases h10 : lLs ν = 10
    · have e9 : (if lLs ν = 10 then 15 else 10) = 15 := if_pos h10
      rw [e9] at kk
      have hM9 := lnew_pre1 h0 hM
      rw [h10, hcap h0] at hM9
      refine h_callV (As := [.ref a]) (rest := rest) hx hb hml hown E hM9 hS xy_Jx4a65c_add_9ea2d hl (c_add10 (List.mem_append_right _ List.mem_cons_self) (fun i hi y hy => ?_)) (ht_m List.mem_cons_self) gC_Jx4a65c.1 rfl hst hroom ⟨by omega, by omega⟩ hcs hdg (fun rv H1 locs1 hZ hS1 => ?_)
      · have e : y = la 40 i := by
          have h : lRf 10 (la 40) i = some (la 40 i) := if_pos hi
          exact Option.some.inj (hy.symm.trans h)
        rw [e]
        exact ⟨_, List.mem_append_left _ (List.mem_map.mpr ⟨(40, i), lrK_40 (by omega), rfl⟩)⟩
      · obtain ⟨ar, rfl, hM1⟩ := hZ
        exact kk ar H1 locs1 (lnew_post hs hn (by omega) (by rw [h10, ← lRf_10]; exact hM1)) hS1
    · have e9 : (if lLs ν = 10 then 15 else 10) = 10 := if_neg h10
      rw [e9] at kk
      have hM9 := lnew_pre1 h0 hM
      rw [hcap h0] at hM9
      refine h_callV (As := [.ref a]) (rest := rest) hx hb hml hown E hM9 hS xy_Jx4a65c_add_9ea2d hl (c_addO (List.mem_append_right _ List.mem_cons_self) (by omega) (by omega)) (ht_m List.mem_cons_self) gC_Jx4a65c.1 rfl hst hroom ⟨by omega, by omega⟩ ⟨by omega, by omega⟩ hdg (fun rv H1 locs1 hZ hS1 => ?_)
      obtain ⟨rfl, hM1⟩ := hZ
      rw [lRf_s] at hM1
      exact W.widen (by omega) (by omega) (kk (la 7 0) H1 locs1 (lnew_post hs hn (by omega) hM1) hS1)
theorem lw_add0 (hx : p.tables.exec = Jvm.exec) (hb : c.code = cc) (hml : c.maxLocals = ls.size) (hown : s.vm.findClass own = some m.cls) (E : hE l D cy ad b s) (hs : lS ν) (hk : k < lLs ν) (h0 : lSz ν k = 0)
    (hM : hW D cy ad b μ (lws cy ad la ν) ((a, .inl (cy 0, 4, .inl g)) :: T) H) (hS : va_S (hA b) s.heap H locs) (hl : gw (.methodLink own idx yJx4a65c_add_9ea2d)) (hst : st = .ref a :: .ref (la 40 k) :: rest) (hroom : (rest.map fun v => v.category).sum ≤ 8) (hR : 7 ≤ R.frames ∧ 171 ≤ R.locals) (hcs : cells + 1 ≤ R.cells ∧ slots + 15 ≤ R.slots) (hdg : decode cc pc = .ok (.invokevirtual idx, 3))
    (kk : ∀ (ar : Nat) (H1 : Heap) (locs1 : List Loc), hW D cy ad b μ (lws cy ad (lset (lset la (100 + k) 0 a) 60 k ar) (lgrow ν k g)) T H1 → va_S (hA b) s.heap H1 locs1 → W p l e R s m args below meth c H1 locs1 (cells + 1) (slots + 15) Q (F0 m (pc + 3) ls (.int 1 :: rest))) : W p l e R s m args below meth c H locs cells slots Q (F0 m pc ls st) := by
  have hnd := lw_nd hM
  refine h_callV (As := [.ref a]) (rest := rest) hx hb hml hown E (ladd0_pre hk h0 hM) hS xy_Jx4a65c_add_9ea2d hl (c_add0A (List.mem_append_right _ List.mem_cons_self)) (ht_m List.mem_cons_self) gC_Jx4a65c.1 rfl hst hroom ⟨by omega, by omega⟩ ⟨hcs.1, by omega⟩ hdg (fun rv H1 locs1 hZ hS1 => ?_)
  obtain ⟨ar, rfl, hM1⟩ := hZ
  exact W.widen (Nat.le_refl _) (by omega) (kk ar H1 locs1 (ladd0_post hs hk h0 hnd hM1) hS1)
theorem lw_add1 (hx : p.tables.exec = Jvm.exec) (hb : c.code = cc) (hml : c.maxLocals = ls.size) (hown : s.vm.findClass own = some m.cls) (E : hE l D cy ad b s) (hs : lS ν) (hk : k < lLs ν) (h0 : lSz ν k ≠ 0) (h8 : lSz ν k < 8)
    (hM : hW D cy ad b μ (lws cy ad la ν) ((a, .inl (cy 0, 4, .inl g)) :: T) H) (hS : va_S (hA b) s.heap H locs) (hl : gw (.methodLink own idx yJx4a65c_add_9ea2d)) (hst : st = .ref a :: .ref (la 40 k) :: rest) (hroom : (rest.map fun v => v.category).sum ≤ 8) (hR : 7 ≤ R.frames ∧ 171 ≤ R.locals) (hcs : cells ≤ R.cells ∧ slots ≤ R.slots) (hdg : decode cc pc = .ok (.invokevirtual idx, 3))
    (kk : ∀ (H1 : Heap) (locs1 : List Loc), hW D cy ad b μ (lws cy ad (lset la (100 + k) (lSz ν k) a) (lgrow ν k g)) T H1 → va_S (hA b) s.heap H1 locs1 → W p l e R s m args below meth c H1 locs1 cells slots Q (F0 m (pc + 3) ls (.int 1 :: rest))) : W p l e R s m args below meth c H locs cells slots Q (F0 m pc ls st) := by
  have hnd := lw_nd hM
  refine h_callV (As := [.ref a]) (rest := rest) hx hb hml hown E (ladd_pre hk h0 hM) hS xy_Jx4a65c_add_9ea2d hl (c_addA (List.mem_append_right _ List.mem_cons_self) (by omega) (by omega)) (ht_m List.mem_cons_self) gC_Jx4a65c.1 rfl hst hroom ⟨by omega, by omega⟩ hcs hdg (fun rv H1 locs1 hZ hS1 => ?_)
  obtain ⟨rfl, hM1⟩ := hZ
  exact kk H1 locs1 (ladd_post hs hk h0 h8 hnd hM1) hS1
theorem l_rowm0 {la' : Nat → Nat → Nat} {ν' : gM} (hY : lY0 cy ad la' ν' P) (hla : la' (100 + k) (lSz ν k) = a) (hν : ν' = lgrow ν k g) (hk : k < lLs ν) (h8 : lSz ν k < 8) (hL : lLs ν ≤ 11) : (a, .inl (cy 0, 4, .inl (ν'.1 (100 + 8 * k + lSz ν k)))) ∈ P := by
  have h1 : k < lLs ν' := by rw [hν, lgrow_ls (by omega)]; exact hk
  have h2 : lSz ν k < lSz ν' k := by rw [hν, lgrow_szk h8]; omega
  have h := hY.1 _ (lws_m (cy := cy) (ad := ad) (la := la') (q := (100 + k, lSz ν k)) (lkeys_mem.mpr (Or.inr (Or.inr (Or.inr (Or.inl ⟨by show 100 ≤ 100 + k; omega, by show 100 + k - 100 < _; omega, by show _ < lSz ν' (100 + k - 100); rw [Nat.add_sub_cancel_left]; exact h2⟩))))))
  unfold lcell at h
  rw [lE_100] at h
  have e : la' (100 + k, lSz ν k).1 (100 + k, lSz ν k).2 = a := hla
  rw [e] at h
  exact h
theorem cl_get0 (hY : lY0 cy ad la ν P) {i : Int32} (hi : gIn i (lLs ν)) : Met l yJx4a65c_get_915e3 [.code yJx4a65c_get_915e3 cJx4a65c_get_915e3 2 (some (.object "java/lang/Object"))] ({ frames := 2, cells := 0, slots := 0, locals := 43 } : Room) (va_Pc [.ref (la 6 0), .int i] (hB l D cy ad b μ P [])) (hQ b (fun rv H => rv = some (.ref (la 40 i.toNatClampNeg)) ∧ hW D cy ad b μ P [] H)) 0 0 (hA b) := by
  have hi2 := hi.2
  have hs := hY.2.2.2.1
  have h6 := hY.c6 (by omega)
  have h := c_get (l := l) (D := D) (cy := cy) (ad := ad) (b := b) (μ := μ) (P := P) h6.1 h6.2 hi.2 (by have := hs.1; omega) hs.2.1 (by have := hs.2.2.1; omega) (lRf_in hi.2)
  rwa [← gIn_e hi] at h
theorem lY0.c40 (h : lY0 cy ad la ν P) {k : Nat} (hk : k < lLs ν) : (la 40 k, .inr (13, [.int (gi ν (40 + k) 0), .ref (if lSz ν k = 0 then ad 461 else la 60 k), .int (nI (lSz ν k))])) ∈ P := h.1 _ (lws_m (q := (40, k)) (lkeys_mem.mpr (Or.inr (Or.inr (Or.inl ⟨Or.inl rfl, hk⟩)))))
end ADDL

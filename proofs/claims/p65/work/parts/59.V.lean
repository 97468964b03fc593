/-! what the law writes in its own cells -/
/-- the memory cell of a key -/
def kid (q : Nat × Nat) : Nat := if q.1 < 10 then q.1 else if q.1 < 100 then q.1 + q.2 else 100 + 8 * (q.1 - 100) + q.2
def okid (id : Nat) : Prop := id ≠ 0 ∧ id ≠ 6 ∧ id ≠ 7 ∧ ¬ (40 ≤ id ∧ id < 60)
def lAg (id : Nat) (ν ν' : gM) : Prop := ∀ x, x ≠ id → ν'.1 x = ν.1 x ∧ ν'.2 x = ν.2 x
/-- all longs of a cell at once -/
def sll (ν : gM) (id : Nat) (f : Nat → Int64) : gM := (ν.1, fun x => if x = id then f else ν.2 x)
theorem lAg_si {ν : gM} {id i : Nat} {v : Int32} : lAg id ν (si ν id i v) := fun x hx => ⟨by
  funext y
  show (if x = id ∧ y = i then v else ν.1 x y) = _
  rw [if_neg (fun h => hx h.1)], rfl⟩
theorem lAg_sl {ν : gM} {id i : Nat} {v : Int64} : lAg id ν (sl ν id i v) := fun x hx => ⟨rfl, by
  funext y
  show (if x = id ∧ y = i then v else ν.2 x y) = _
  rw [if_neg (fun h => hx h.1)]⟩
theorem lAg_sll {ν : gM} {id : Nat} {f : Nat → Int64} : lAg id ν (sll ν id f) := fun x hx => ⟨rfl, if_neg hx⟩
section LAG
variable {cy : Nat → ClassId} {ad : Nat → Nat} {la : Nat → Nat → Nat} {ν ν' : gM} {id : Nat}
theorem lAg.ln (h : lAg id ν ν') (ho : okid id) : lLn ν' = lLn ν := by unfold lLn gi; rw [(h 0 (Ne.symm ho.1)).1]
theorem lAg.pt (h : lAg id ν ν') (ho : okid id) : lPt ν' = lPt ν := by unfold lPt gi; rw [(h 0 (Ne.symm ho.1)).1]
theorem lAg.sz (h : lAg id ν ν') (ho : okid id) {k : Nat} (hk : k < 20) : lSz ν' k = lSz ν k := by
  unfold lSz gi
  rw [(h (40 + k) (fun e => ho.2.2.2 ⟨by omega, by omega⟩)).1]
theorem lAg.fl (h : lAg id ν ν') (ho : okid id) : gi ν' 0 10 = gi ν 0 10 := by unfold gi; rw [(h 0 (Ne.symm ho.1)).1]
theorem lAg.ls (h : lAg id ν ν') (ho : okid id) : lLs ν' = lLs ν := by unfold lLs gi; rw [(h 6 (Ne.symm ho.2.1)).1]
theorem lAg.keys (h : lAg id ν ν') (ho : okid id) (hn : lLs ν ≤ 11) : lkeys ν' = lkeys ν := by
  unfold lkeys lk3 lk4
  rw [h.ln ho, h.fl ho, h.ls ho]
  congr 3
  refine congrArg List.flatten (List.map_congr_left (fun k hk => ?_))
  have hk := List.mem_range.mp hk
  unfold lk2
  rw [h.sz ho (by omega)]
theorem lAg.S (h : lAg id ν ν') (ho : okid id) (hs : lS ν) : lS ν' := by
  obtain ⟨⟨a1, a2⟩, ⟨b1, b2⟩, ⟨c0, c1, c2, c3⟩, d⟩ := hs
  refine ⟨⟨by rw [h.ln ho]; exact a1, ?_⟩, ⟨by rw [h.pt ho]; exact b1, ?_⟩, ⟨by rw [h.ls ho]; exact c0, ?_, ?_, ?_⟩, fun k hk => ?_⟩
  · unfold gi; rw [(h 0 (Ne.symm ho.1)).1, h.ln ho]; exact a2
  · unfold gi; rw [(h 0 (Ne.symm ho.1)).1, h.pt ho]; exact b2
  · unfold gi; rw [(h 7 (Ne.symm ho.2.2.1)).1, h.ls ho]; exact c1
  · unfold gi; rw [(h 7 (Ne.symm ho.2.2.1)).1]; exact c2
  · unfold gi; rw [(h 6 (Ne.symm ho.2.1)).1, h.ls ho]; exact c3
  · rw [h.ls ho] at hk
    rw [h.sz ho (by omega)]; exact d k hk
theorem lAg.F (h : lAg id ν ν') (ho : okid id) (hn : lLs ν ≤ 11) (hf : lF ν) : lF ν' := by
  obtain ⟨f1, f2, f3⟩ := hf
  refine ⟨by rw [h.ls ho, h.ln ho]; exact f1, by rw [h.ln ho]; exact f2, fun k hk => ?_⟩
  rw [h.ln ho] at hk
  rw [h.sz ho (by omega)]; exact f3 k hk
theorem lO_ag (h : lAg id ν ν') (ho : id ≠ 0) : lO ad la ν' = lO ad la ν := by
  have e := (h 0 (Ne.symm ho)).1
  unfold lO lHv gi
  rw [e]
theorem lE_ag (h : lAg id ν ν') (ho : okid id) (hs : lS ν) {q : Nat × Nat} (hq : q ∈ lkeys ν) (hk : kid q ≠ id) : lE cy ad la ν' q = lE cy ad la ν q := by
  have hL := hs.1.1
  have hL6 := hs.2.2.1.1
  rcases lkeys_mem.mp hq with ⟨h1, h2, -⟩ | ⟨h1, h2⟩ | ⟨h1, h2⟩ | ⟨h1, h2, h3⟩ | ⟨h1, -⟩
  · obtain ⟨k, i⟩ := q
    have h2 : i = 0 := h2
    subst h2
    have h1 : k < 9 := h1
    have hk : k ≠ id := by unfold kid at hk; rwa [if_pos (by show k < 10; omega)] at hk
    have e := (h k hk).1
    rcases (by omega : k = 0 ∨ k = 1 ∨ k = 2 ∨ k = 3 ∨ k = 4 ∨ k = 5 ∨ k = 6 ∨ k = 7 ∨ k = 8) with rfl | rfl | rfl | rfl | rfl | rfl | rfl | rfl | rfl
    · exact lO_ag h ho.1
    · show Sum.inl (cy 0, 2, Sum.inl (ν'.1 1)) = Sum.inl (cy 0, 2, Sum.inl (ν.1 1)); rw [e]
    · show Sum.inl (cy 0, 16, Sum.inl (ν'.1 2)) = Sum.inl (cy 0, 16, Sum.inl (ν.1 2)); rw [e]
    · show Sum.inl (cy 5, lLn ν', Sum.inr (Sum.inr (Sum.inr (Sum.inr (lRf (lLn ν') (la 20)))))) = _; rw [h.ln ho]; rfl
    · show Sum.inl (cy 0, lLn ν', Sum.inl (ν'.1 4)) = _; rw [h.ln ho, e]; rfl
    · show Sum.inl (cy 3, lLn ν', Sum.inl (ν'.1 5)) = _; rw [h.ln ho, e]; rfl
    · show Sum.inr (13, [Value.int (ν'.1 6 0), .ref (if lLs ν' = 0 then ad 461 else la 7 0), .int (nI (lLs ν'))]) = _; rw [h.ls ho, e]; rfl
    · show Sum.inl (cy 4, (ν'.1 7 0).toNatClampNeg, Sum.inr (Sum.inr (Sum.inr (Sum.inr (lRf (lLs ν') (la 40)))))) = _; rw [h.ls ho, e]; rfl
    · show Sum.inl (cy 0, 3, Sum.inl (ν'.1 8)) = Sum.inl (cy 0, 3, Sum.inl (ν.1 8)); rw [e]
  · obtain ⟨k, i⟩ := q
    have h2 : i < lLn ν := h2
    · have h1 : k = 20 := h1
      subst h1
      have hk : 20 + i ≠ id := by
        unfold kid at hk
        rwa [if_neg (by show ¬ 20 < 10; omega), if_pos (by show 20 < 100; omega)] at hk
      show Sum.inl (cy 0, 2, Sum.inl (ν'.1 (20 + i))) = Sum.inl (cy 0, 2, Sum.inl (ν.1 (20 + i))); rw [(h _ hk).1]
  · obtain ⟨k, i⟩ := q
    have h2 : i < lLs ν := h2
    rcases h1 with h1 | ⟨h1, -⟩
    · have h1 : k = 40 := h1
      subst h1
      show Sum.inr (13, [Value.int (ν'.1 (40 + i) 0), .ref (if lSz ν' i = 0 then ad 461 else la 60 i), .int (nI (lSz ν' i))]) = _
      rw [h.sz ho (by omega), (h (40 + i) (fun e => ho.2.2.2 ⟨by omega, by omega⟩)).1]; rfl
    · have h1 : k = 60 := h1
      subst h1
      show Sum.inl (cy 4, 10, Sum.inr (Sum.inr (Sum.inr (Sum.inr (lRf (lSz ν' i) (la (100 + i))))))) = _
      rw [h.sz ho (by omega)]; rfl
  · obtain ⟨k, i⟩ := q
    have h1 : 100 ≤ k := h1
    obtain ⟨j, rfl⟩ : ∃ j, k = 100 + j := ⟨k - 100, by omega⟩
    have hk : 100 + 8 * j + i ≠ id := by
      unfold kid at hk
      rw [if_neg (by show ¬ 100 + j < 10; omega), if_neg (by show ¬ 100 + j < 100; omega)] at hk
      show 100 + 8 * j + i ≠ id
      have e : 100 + j - 100 = j := by omega
      have hk : 100 + 8 * (100 + j - 100) + i ≠ id := hk
      rwa [e] at hk
    rw [lE_100, lE_100, (h _ hk).1]
  · subst h1
    have hk : 9 ≠ id := by unfold kid at hk; rwa [if_pos (by decide)] at hk
    show Sum.inl (cy 1, lPt ν', Sum.inr (Sum.inl (ν'.2 9))) = _
    rw [h.pt ho, (h _ hk).2]; rfl
theorem kid_inj (hs : lS ν) {q r : Nat × Nat} (hq : q ∈ lkeys ν) (hr : r ∈ lkeys ν) (h : kid q = kid r) : q = r := by
  have hL := hs.1.1
  have hL6 := hs.2.2.1.1
  obtain ⟨a, b⟩ := q
  obtain ⟨c, d⟩ := r
  have hz := hs.2.2.2
  have fact : ∀ {x y : Nat}, (x, y) ∈ lkeys ν → (x < 10 ∧ y = 0 ∧ kid (x, y) = x) ∨ ((x = 20 ∨ x = 40 ∨ x = 60) ∧ y < 11 ∧ kid (x, y) = x + y) ∨ (100 ≤ x ∧ x < 111 ∧ y < 8 ∧ kid (x, y) = 100 + 8 * (x - 100) + y) := by
    intro x y hx
    rcases lkeys_mem.mp hx with ⟨h1, h2, -⟩ | ⟨h1, h2⟩ | ⟨h1, h2⟩ | ⟨h1, h2, h3⟩ | ⟨h1, -⟩
    · have h1 : x < 9 := h1
      exact Or.inl ⟨by omega, h2, if_pos (by show x < 10; omega)⟩
    · have h1 : x = 20 := h1
      have h2 : y < lLn ν := h2
      refine Or.inr (Or.inl ⟨Or.inl h1, by omega, ?_⟩)
      unfold kid
      rw [if_neg (by show ¬ x < 10; omega), if_pos (by show x < 100; omega)]
    · have h1 : x = 40 ∨ (x = 60 ∧ _) := h1
      have h2 : y < lLs ν := h2
      have h1 : x = 40 ∨ x = 60 := h1.imp id And.left
      refine Or.inr (Or.inl ⟨Or.inr h1, by omega, ?_⟩)
      unfold kid
      rw [if_neg (by show ¬ x < 10; omega), if_pos (by show x < 100; omega)]
    · have h1 : 100 ≤ x := h1
      have h2 : x - 100 < lLs ν := h2
      have h3 : y < lSz ν (x - 100) := h3
      have := hz _ h2
      refine Or.inr (Or.inr ⟨h1, by omega, by omega, ?_⟩)
      unfold kid
      rw [if_neg (by show ¬ x < 10; omega), if_neg (by show ¬ x < 100; omega)]
    · cases h1
      exact Or.inl ⟨by decide, rfl, rfl⟩
  rcases fact hq with ⟨p1, p2, p3⟩ | ⟨p1, p2, p3⟩ | ⟨p1, p2, p4, p3⟩ <;> rcases fact hr with ⟨r1, r2, r3⟩ | ⟨r1, r2, r3⟩ | ⟨r1, r2, r4, r3⟩ <;> rw [p3, r3] at h
  · rw [p2, r2, h]
  · omega
  · omega
  · omega
  · have : a = c ∧ b = d := by omega
    rw [this.1, this.2]
  · omega
  · omega
  · omega
  · have : a = c ∧ b = d := by omega
    rw [this.1, this.2]
end LAG
section LOUT
variable {D : va_G} {cy : Nat → ClassId} {ad : Nat → Nat} {la la' : Nat → Nat → Nat} {b : Nat} {μ ν ν' : gM} {P T : va_W} {H : Heap} {c : Nat × Nat}
theorem lw_nd (hM : hW D cy ad b μ (lws cy ad la ν) T H) : (lkeys ν).Nodup := by
  have h := (va_D_nd.mp hM.2).1
  rw [List.map_append] at h
  have h2 := (List.nodup_append.mp h).2.1
  rw [show ((b, lws cy ad la ν ++ T) : gBs).2 = lws cy ad la ν ++ T from rfl, List.map_append] at h2
  have h3 := (List.nodup_append.mp h2).1
  unfold lws at h3
  rw [List.map_map] at h3
  exact (List.pairwise_map.mp h3).imp (fun hab e => hab (by rw [e]))
theorem lw_out (hc : c ∈ lkeys ν) (hM : hW D cy ad b μ (lws cy ad la ν) T H) : hW D cy ad b μ (((lkeys ν).erase c).map (lcell cy ad la ν)) (lcell cy ad la ν c :: T) H := by
  refine hW.perm ?_ hM
  have h1 : (lws cy ad la ν).Perm (lcell cy ad la ν c :: ((lkeys ν).erase c).map (lcell cy ad la ν)) := (List.perm_cons_erase hc).map _
  exact (h1.append_right T).trans List.perm_middle.symm
theorem lw_in (hn : (lkeys ν).Nodup) (hc : c ∈ lkeys ν) (hk : lkeys ν' = lkeys ν) (he : ∀ q ∈ lkeys ν, q ≠ c → lcell cy ad la' ν' q = lcell cy ad la ν q) (hM : hW D cy ad b μ (((lkeys ν).erase c).map (lcell cy ad la ν)) (lcell cy ad la' ν' c :: T) H) : hW D cy ad b μ (lws cy ad la' ν') T H := by
  refine hW.perm ?_ hM
  have h0 : ((lkeys ν).erase c).map (lcell cy ad la ν) = ((lkeys ν').erase c).map (lcell cy ad la' ν') := by
    rw [hk]
    apply List.map_congr_left
    intro q hq
    have h9 := (List.Nodup.mem_erase_iff hn).mp hq
    exact (he q h9.2 h9.1).symm
  rw [h0]
  have h1 : (lws cy ad la' ν').Perm (lcell cy ad la' ν' c :: ((lkeys ν').erase c).map (lcell cy ad la' ν')) := (List.perm_cons_erase (hk ▸ hc)).map _
  exact List.perm_middle.trans (h1.append_right T).symm
end LOUT
section LWR
variable {p : Program} {l : Launch} {e : Env} {R : Room} {s : State} {m : MethodId} {args : Array Value} {below : List Frame} {meth : Method} {c : Code} {H : Heap} {locs : List Loc} {cells slots : Nat} {Q : State → Prop}
variable {cc : ByteArray} {pc : Nat} {ls : Array Slot} {rest : List Value} {D : va_G} {cy : Nat → ClassId} {ad : Nat → Nat} {la : Nat → Nat → Nat} {b a : Nat} {μ ν : gM} {T : va_W} {own : String}
theorem lw_iast (hx : p.tables.exec = Jvm.exec) (hb : c.code = cc) (E : hE l D cy ad b s) (hs : lS ν) (hM : hW D cy ad b μ (lws cy ad la ν) T H) (hS : va_S (hA b) s.heap H locs) {k : Nat × Nat} {id n : Nat} (hc : k ∈ lkeys ν) (ho : okid id) (hk : kid k = id) (hE : ∀ ν', lLn ν' = lLn ν → lE cy ad la ν' k = .inl (cy 0, n, .inl (ν'.1 id))) {i x : Int32} (hin : gIn i n) (hdg : decode cc pc = .ok (.iastore, 1))
    (kk : ∀ (H1 : Heap) (locs1 : List Loc), hW D cy ad b μ (lws cy ad la (si ν id i.toNatClampNeg x)) T H1 → va_S (hA b) s.heap H1 locs1 → W p l e R s m args below meth c H1 locs1 cells slots Q (F0 m (pc + 1) ls rest)) : W p l e R s m args below meth c H locs cells slots Q (F0 m pc ls (.int x :: .int i :: .ref (la k.1 k.2) :: rest)) := by
  have hA := lAg_si (ν := ν) (id := id) (i := i.toNatClampNeg) (v := x)
  refine h_iast (j := 0) (g := ν.1 id) (n := n) hx hb E (lw_out hc hM) hS ?_ hin hdg (fun H1 locs1 hM1 hS1 => kk H1 locs1 (lw_in (la := la) (lw_nd hM) hc (hA.keys ho hs.2.2.1.1) (fun q hq hqc => ?_) ?_) hS1)
  · show some (lcell cy ad la ν k) = _
    unfold lcell
    rw [hE ν rfl]
  · unfold lcell
    rw [lE_ag hA ho hs hq (fun e => hqc (kid_inj hs hq hc (e.trans hk.symm)))]
  · have e : lcell cy ad la (si ν id i.toNatClampNeg x) k = (la k.1 k.2, .inl (cy 0, n, .inl (upd (ν.1 id) i.toNatClampNeg x))) := by
      unfold lcell
      rw [hE _ (hA.ln ho), si_self]
    rw [e]; exact hM1
theorem lw_zast (hx : p.tables.exec = Jvm.exec) (hb : c.code = cc) (E : hE l D cy ad b s) (hs : lS ν) (hM : hW D cy ad b μ (lws cy ad la ν) T H) (hS : va_S (hA b) s.heap H locs) {i x : Int32} (hz : gBool x) (hin : gIn i (lLn ν)) (hdg : decode cc pc = .ok (.bastore, 1))
    (kk : ∀ (H1 : Heap) (locs1 : List Loc), hW D cy ad b μ (lws cy ad la (si ν 5 i.toNatClampNeg x)) T H1 → va_S (hA b) s.heap H1 locs1 → W p l e R s m args below meth c H1 locs1 cells slots Q (F0 m (pc + 1) ls rest)) : W p l e R s m args below meth c H locs cells slots Q (F0 m pc ls (.int x :: .int i :: .ref (la 5 0) :: rest)) := by
  have hA := lAg_si (ν := ν) (id := 5) (i := i.toNatClampNeg) (v := x)
  have ho : okid 5 := by unfold okid; decide
  have hc : ((5, 0) : Nat × Nat) ∈ lkeys ν := lkeys_mem.mpr (Or.inl ⟨by decide, rfl, fun h => absurd h (by decide)⟩)
  have hM0 := lw_out hc hM
  have hx9 : vp_nar .boolean x = x := by rcases hz with rfl | rfl <;> rfl
  refine va_zast (f := ν.1 5) (n := lLn ν) hx hb E.1.1 hM0.1 hM0.2 hS (60 + ((((lkeys ν).erase (5, 0)).map (lcell cy ad la ν)).length + 0)) 3 (ht_at rfl) rfl (gIn_v hin) hdg (fun H1 locs1 hP1 hD1 hS1 => kk H1 locs1 (lw_in (la := la) (lw_nd hM) hc (hA.keys ho hs.2.2.1.1) (fun q hq hqc => ?_) ?_) hS1)
  · unfold lcell
    rw [lE_ag hA ho hs hq (fun e => hqc (kid_inj hs hq hc e))]
  · have hM1 := h_T hP1 hD1
    have e : lcell cy ad la (si ν 5 i.toNatClampNeg x) (5, 0) = (la 5 0, .inl (cy 3, lLn ν, .inl (upd (ν.1 5) i.toNatClampNeg (vp_nar .boolean x)))) := by
      show (la 5 0, Sum.inl (cy 3, lLn (si ν 5 i.toNatClampNeg x), Sum.inl ((si ν 5 i.toNatClampNeg x).1 5))) = _
      rw [hA.ln ho, si_self, hx9]
    rw [e]; exact hM1
theorem lw_last (hx : p.tables.exec = Jvm.exec) (hb : c.code = cc) (E : hE l D cy ad b s) (hs : lS ν) (hM : hW D cy ad b μ (lws cy ad la ν) T H) (hS : va_S (hA b) s.heap H locs) (hh : ¬ gi ν 0 10 = 0) {i : Int32} {x : Int64} (hin : gIn i (lPt ν)) (hdg : decode cc pc = .ok (.lastore, 1))
    (kk : ∀ (H1 : Heap) (locs1 : List Loc), hW D cy ad b μ (lws cy ad la (sl ν 9 i.toNatClampNeg x)) T H1 → va_S (hA b) s.heap H1 locs1 → W p l e R s m args below meth c H1 locs1 cells slots Q (F0 m (pc + 1) ls rest)) : W p l e R s m args below meth c H locs cells slots Q (F0 m pc ls (.long x :: .int i :: .ref (la 9 0) :: rest)) := by
  have hA := lAg_sl (ν := ν) (id := 9) (i := i.toNatClampNeg) (v := x)
  have ho : okid 9 := by unfold okid; decide
  have hc : ((9, 0) : Nat × Nat) ∈ lkeys ν := lkeys_mem.mpr (Or.inr (Or.inr (Or.inr (Or.inr ⟨rfl, hh⟩))))
  refine h_last (j := 0) (g := ν.2 9) (n := lPt ν) hx hb E (lw_out hc hM) hS rfl hin hdg (fun H1 locs1 hM1 hS1 => kk H1 locs1 (lw_in (la := la) (lw_nd hM) hc (hA.keys ho hs.2.2.1.1) (fun q hq hqc => ?_) ?_) hS1)
  · unfold lcell
    rw [lE_ag hA ho hs hq (fun e => hqc (kid_inj hs hq hc e))]
  · have e : lcell cy ad la (sl ν 9 i.toNatClampNeg x) (9, 0) = (la 9 0, .inl (cy 1, lPt ν, .inr (.inl (vp_updL (ν.2 9) i.toNatClampNeg x)))) := by
      show (la 9 0, Sum.inl (cy 1, lPt (sl ν 9 i.toNatClampNeg x), Sum.inr (Sum.inl ((sl ν 9 i.toNatClampNeg x).2 9)))) = _
      rw [hA.pt ho, sl_self]
    rw [e]; exact hM1
end LWR

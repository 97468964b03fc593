/-! a list comes into the list of lists -/
def lnew (ν : gM) (c : Nat) : gM := si (si (si (si (si ν 6 0 (gi ν 6 0 + 1)) 6 2 (nI (lLs ν + 1))) 7 0 (nI c)) (40 + lLs ν) 0 0) (40 + lLs ν) 2 0
def lkA : List (Nat × Nat) := [(0, 0), (1, 0), (2, 0), (3, 0), (4, 0), (5, 0), (8, 0)]
def lrK (ν : gM) : List (Nat × Nat) := lkA ++ ((List.range (lLn ν)).map (fun k => (20, k)) ++ ((List.range (lLs ν)).flatMap (lk2 ν) ++ lk3 ν))
section LNEW
variable {D : va_G} {cy : Nat → ClassId} {ad : Nat → Nat} {la : Nat → Nat → Nat} {b a ar c : Nat} {μ ν : gM} {H : Heap} {T : va_W}
theorem si_ne1 {μ : gM} {id i x : Nat} {v : Int32} (h : x ≠ id) : (si μ id i v).1 x = μ.1 x := (lAg_si x h).1
theorem lnew_ne {x : Nat} (h1 : x ≠ 6) (h2 : x ≠ 7) (h3 : x ≠ 40 + lLs ν) : (lnew ν c).1 x = ν.1 x := by
  unfold lnew
  rw [si_ne1 h3, si_ne1 h3, si_ne1 h2, si_ne1 h1, si_ne1 h1]
theorem lnew_ln : lLn (lnew ν c) = lLn ν := by unfold lLn gi; rw [lnew_ne (by omega) (by omega) (by omega)]
theorem lnew_pt : lPt (lnew ν c) = lPt ν := by unfold lPt gi; rw [lnew_ne (by omega) (by omega) (by omega)]
theorem lnew_6 {i : Nat} : (lnew ν c).1 6 i = if i = 2 then nI (lLs ν + 1) else if i = 0 then gi ν 6 0 + 1 else ν.1 6 i := by
  unfold lnew
  rw [si_ne1 (show 6 ≠ 40 + lLs ν by omega), si_ne1 (show 6 ≠ 40 + lLs ν by omega), si_ne1 (show 6 ≠ 7 by omega)]
  show (if 6 = 6 ∧ i = 2 then _ else (if 6 = 6 ∧ i = 0 then _ else _)) = _
  by_cases h : i = 2
  · rw [if_pos ⟨rfl, h⟩, if_pos h]
  · rw [if_neg (fun q => h q.2), if_neg h]
    by_cases d : i = 0
    · rw [if_pos ⟨rfl, d⟩, if_pos d]
    · rw [if_neg (fun q => d q.2), if_neg d]
theorem lnew_7 : gi (lnew ν c) 7 0 = nI c := by
  unfold gi lnew
  rw [si_ne1 (show 7 ≠ 40 + lLs ν by omega), si_ne1 (show 7 ≠ 40 + lLs ν by omega)]
  rfl
theorem lnew_40 {i : Nat} (hi : i = 0 ∨ i = 2) : gi (lnew ν c) (40 + lLs ν) i = 0 := by
  unfold gi lnew
  show (if 40 + lLs ν = 40 + lLs ν ∧ i = 2 then 0 else (if 40 + lLs ν = 40 + lLs ν ∧ i = 0 then 0 else _)) = _
  rcases hi with rfl | rfl
  · rw [if_neg (by omega), if_pos ⟨rfl, rfl⟩]
  · rw [if_pos ⟨rfl, rfl⟩]
theorem lnew_ls (h : lLs ν < 100) : lLs (lnew ν c) = lLs ν + 1 := by
  show (gi (lnew ν c) 6 2).toNatClampNeg = _
  unfold gi
  rw [lnew_6, if_pos rfl, nI_clamp (by omega)]
theorem lnew_sz {j : Nat} (hj : j ≠ lLs ν) : lSz (lnew ν c) j = lSz ν j := by
  show (gi (lnew ν c) (40 + j) 2).toNatClampNeg = _
  unfold gi
  rw [lnew_ne (by omega) (by omega) (by omega)]
  rfl
theorem lnew_szn : lSz (lnew ν c) (lLs ν) = 0 := by
  show (gi (lnew ν c) (40 + lLs ν) 2).toNatClampNeg = _
  rw [lnew_40 (Or.inr rfl)]
  rfl
theorem lnew_S (hs : lS ν) (hn : lLs ν < 11) (hc : lLs ν < c) (hc2 : c < 100) : lS (lnew ν c) := by
  obtain ⟨⟨a1, a2⟩, ⟨b1, b2⟩, ⟨c0, c1, c2, c3⟩, d⟩ := hs
  have e0 : (lnew ν c).1 0 = ν.1 0 := lnew_ne (by omega) (by omega) (by omega)
  refine ⟨⟨by rw [lnew_ln]; exact a1, by rw [lnew_ln]; unfold gi; rw [e0]; exact a2⟩, ⟨by rw [lnew_pt]; exact b1, by rw [lnew_pt]; unfold gi; rw [e0]; exact b2⟩, ⟨by rw [lnew_ls (by omega)]; omega, by rw [lnew_ls (by omega), lnew_7, nI_clamp (by omega)]; omega, by rw [lnew_7, nI_clamp (by omega)]; exact hc2, ?_⟩, fun j hj => ?_⟩
  · rw [lnew_ls (by omega)]
    unfold gi
    rw [lnew_6, if_pos rfl]
  · rw [lnew_ls (by omega)] at hj
    by_cases h : j = lLs ν
    · rw [h, lnew_szn]; omega
    · rw [lnew_sz h]; exact d j (by omega)
theorem lk_split : (lkeys ν).Perm ((6, 0) :: ((if lLs ν = 0 then [] else [((7 : Nat), (0 : Nat))]) ++ lrK ν)) := by
  unfold lkeys lk4 lrK
  have p1 : lk1.Perm ((6, 0) :: lkA) := by
    show ([(0, 0), (1, 0), (2, 0), (3, 0), (4, 0), (5, 0)] ++ (6, 0) :: [(8, 0)]).Perm _
    exact List.perm_middle
  refine (p1.append_right _).trans (List.Perm.cons _ ?_)
  show (lkA ++ _).Perm _
  generalize (if lLs ν = 0 then [] else [((7 : Nat), (0 : Nat))]) = X
  rw [List.append_assoc, ← List.append_assoc, ← List.append_assoc X]
  exact List.perm_append_comm.append_right _
theorem lk_new (h : lLs ν < 11) : (lkeys (lnew ν c)).Perm ((6, 0) :: (7, 0) :: (lrK ν ++ [(40, lLs ν)])) := by
  refine lk_split.trans (List.Perm.cons _ ?_)
  rw [lnew_ls (by omega), if_neg (by omega)]
  refine List.Perm.cons _ ?_
  unfold lrK
  rw [lnew_ln, lnew_ls (by omega), List.range_succ, List.flatMap_append]
  have e1 : (List.range (lLs ν)).flatMap (lk2 (lnew ν c)) = (List.range (lLs ν)).flatMap (lk2 ν) := by
    refine congrArg List.flatten (List.map_congr_left (fun j hj => ?_))
    have hj := List.mem_range.mp hj
    unfold lk2
    rw [lnew_sz (by omega)]
  have e2 : [lLs ν].flatMap (lk2 (lnew ν c)) = [(40, lLs ν)] := by
    show lk2 (lnew ν c) (lLs ν) ++ [] = _
    unfold lk2
    rw [lnew_szn]
    rfl
  have e3 : lk3 (lnew ν c) = lk3 ν := by unfold lk3 gi; rw [lnew_ne (by omega) (by omega) (by omega)]
  rw [e1, e2, e3]
  rw [List.append_assoc, List.append_assoc, List.append_assoc, List.append_assoc]
  refine List.Perm.append_left _ (List.Perm.append_left _ (List.Perm.append_left _ ?_))
  exact List.Perm.append_left _ List.perm_append_comm
theorem lrK_mem {q : Nat × Nat} (h : q ∈ lrK ν) : (q.1 < 9 ∧ q.2 = 0 ∧ q.1 ≠ 6 ∧ q.1 ≠ 7) ∨ q.1 = 20 ∨ (q.1 = 40 ∧ q.2 < lLs ν) ∨ (q.1 = 60 ∧ q.2 < lLs ν) ∨ (∃ j i, q = (100 + j, i) ∧ j < lLs ν) ∨ q = (9, 0) := by
  unfold lrK lkA at h
  rcases List.mem_append.mp h with h | h
  · simp only [List.mem_cons, List.not_mem_nil, or_false] at h
    rcases h with rfl | rfl | rfl | rfl | rfl | rfl | rfl <;> exact Or.inl ⟨by decide, rfl, by decide, by decide⟩
  · rcases List.mem_append.mp h with h | h
    · obtain ⟨k, -, rfl⟩ := List.mem_map.mp h
      exact Or.inr (Or.inl rfl)
    · rcases List.mem_append.mp h with h | h
      · obtain ⟨k, hk, h⟩ := List.mem_flatMap.mp h
        have hk := List.mem_range.mp hk
        unfold lk2 at h
        rcases List.mem_cons.mp h with rfl | h
        · exact Or.inr (Or.inr (Or.inl ⟨rfl, hk⟩))
        · rcases List.mem_append.mp h with h | h
          · by_cases c : lSz ν k = 0
            · rw [if_pos c] at h; exact absurd h List.not_mem_nil
            · rw [if_neg c] at h; rw [List.mem_singleton.mp h]; exact Or.inr (Or.inr (Or.inr (Or.inl ⟨rfl, hk⟩)))
          · obtain ⟨i, -, rfl⟩ := List.mem_map.mp h
            exact Or.inr (Or.inr (Or.inr (Or.inr (Or.inl ⟨k, i, rfl, hk⟩))))
      · unfold lk3 at h
        by_cases c : gi ν 0 10 = 0
        · rw [if_pos c] at h; exact absurd h List.not_mem_nil
        · rw [if_neg c] at h; rw [List.mem_singleton.mp h]; exact Or.inr (Or.inr (Or.inr (Or.inr (Or.inr rfl))))
theorem lnew_cell (hs : lS ν) (hn : lLs ν < 11) {q : Nat × Nat} (hq : q ∈ lrK ν) : lcell cy ad (lset (lset la 40 (lLs ν) a) 7 0 ar) (lnew ν c) q = lcell cy ad la ν q := by
  have hz := hs.2.2.2
  obtain ⟨x, i⟩ := q
  have hl : ∀ y z, y ≠ 7 → ¬ (y = 40 ∧ z = lLs ν) → lset (lset la 40 (lLs ν) a) 7 0 ar y z = la y z := fun y z h1 h2 => by
    rw [lset_ne h1, lset_ne2 h2]
  have hr : ∀ y, y ≠ 7 → y ≠ 40 → lset (lset la 40 (lLs ν) a) 7 0 ar y = la y := fun y h1 h2 => by rw [lset_ne h1, lset_ne h2]
  have hid : ∀ y, y < 40 → y ≠ 6 → y ≠ 7 → (lnew ν c).1 y = ν.1 y := fun y h1 h2 h3 => lnew_ne h2 h3 (by omega)
  rcases lrK_mem hq with ⟨p1, p2, p3, p4⟩ | p1 | ⟨p1, p2⟩ | ⟨p1, p2⟩ | ⟨j, i2, p1, p2⟩ | p1
  · have p2 : i = 0 := p2
    subst p2
    have p1 : x < 9 := p1
    have p3 : x ≠ 6 := p3
    have p4 : x ≠ 7 := p4
    unfold lcell
    rw [hl x 0 p4 (by omega)]
    congr 1
    rcases (by omega : x = 0 ∨ x = 1 ∨ x = 2 ∨ x = 3 ∨ x = 4 ∨ x = 5 ∨ x = 8) with rfl | rfl | rfl | rfl | rfl | rfl | rfl
    · show lO ad _ (lnew ν c) = lO ad la ν
      unfold lO lHv gi
      rw [hid 0 (by omega) (by omega) (by omega), hr 1 (by omega) (by omega), hr 2 (by omega) (by omega), hr 3 (by omega) (by omega), hr 4 (by omega) (by omega), hr 5 (by omega) (by omega), hr 6 (by omega) (by omega), hr 8 (by omega) (by omega), hr 9 (by omega) (by omega)]
    · show Sum.inl (cy 0, 2, Sum.inl ((lnew ν c).1 1)) = _; rw [hid 1 (by omega) (by omega) (by omega)]; rfl
    · show Sum.inl (cy 0, 16, Sum.inl ((lnew ν c).1 2)) = _; rw [hid 2 (by omega) (by omega) (by omega)]; rfl
    · show Sum.inl (cy 5, lLn (lnew ν c), Sum.inr (Sum.inr (Sum.inr (Sum.inr (lRf (lLn (lnew ν c)) (lset (lset la 40 (lLs ν) a) 7 0 ar 20)))))) = _; rw [lnew_ln, hr 20 (by omega) (by omega)]; rfl
    · show Sum.inl (cy 0, lLn (lnew ν c), Sum.inl ((lnew ν c).1 4)) = _; rw [lnew_ln, hid 4 (by omega) (by omega) (by omega)]; rfl
    · show Sum.inl (cy 3, lLn (lnew ν c), Sum.inl ((lnew ν c).1 5)) = _; rw [lnew_ln, hid 5 (by omega) (by omega) (by omega)]; rfl
    · show Sum.inl (cy 0, 3, Sum.inl ((lnew ν c).1 8)) = _; rw [hid 8 (by omega) (by omega) (by omega)]; rfl
  · have p1 : x = 20 := p1
    subst p1
    unfold lcell
    rw [hl 20 i (by omega) (by omega)]
    congr 1
    have hi : i < lLn ν := by
      rcases lkeys_mem.mp (lk_split.mem_iff.mpr (List.mem_cons_of_mem _ (List.mem_append_right _ hq))) with ⟨z, -⟩ | ⟨-, z⟩ | ⟨z, -⟩ | ⟨z, -⟩ | ⟨z, -⟩
      · exact absurd z (by show ¬ 20 < 9; omega)
      · exact z
      · rcases z with z | ⟨z, -⟩
        · exact absurd z (by show ¬ 20 = 40; omega)
        · exact absurd z (by show ¬ 20 = 60; omega)
      · exact absurd z (by show ¬ 100 ≤ 20; omega)
      · cases z
    have := hs.1.1
    show Sum.inl (cy 0, 2, Sum.inl ((lnew ν c).1 (20 + i))) = _; rw [hid (20 + i) (by omega) (by omega) (by omega)]; rfl
  · have p1 : x = 40 := p1
    subst p1
    have p2 : i < lLs ν := p2
    unfold lcell
    rw [hl 40 i (by omega) (by omega)]
    congr 1
    show Sum.inr (13, [Value.int ((lnew ν c).1 (40 + i) 0), .ref (if lSz (lnew ν c) i = 0 then ad 461 else lset (lset la 40 (lLs ν) a) 7 0 ar 60 i), .int (nI (lSz (lnew ν c) i))]) = _
    rw [lnew_sz (by omega), hr 60 (by omega) (by omega), lnew_ne (by omega) (by omega) (by omega)]; rfl
  · have p1 : x = 60 := p1
    subst p1
    have p2 : i < lLs ν := p2
    unfold lcell
    rw [hl 60 i (by omega) (by omega)]
    congr 1
    show Sum.inl (cy 4, 10, Sum.inr (Sum.inr (Sum.inr (Sum.inr (lRf (lSz (lnew ν c) i) (lset (lset la 40 (lLs ν) a) 7 0 ar (100 + i))))))) = _
    rw [lnew_sz (by omega), hr (100 + i) (by omega) (by omega)]; rfl
  · cases p1
    unfold lcell
    rw [lE_100, lE_100]
    show (lset (lset la 40 (lLs ν) a) 7 0 ar (100 + j) i, _) = (la (100 + j) i, _)
    rw [hl (100 + j) i (by omega) (by omega), lnew_ne (by omega) (by omega) (by omega)]
  · cases p1
    unfold lcell
    rw [hl 9 0 (by omega) (by omega)]
    congr 1
    show Sum.inl (cy 1, lPt (lnew ν c), Sum.inr (Sum.inl (ν.2 9))) = _
    rw [lnew_pt]; rfl
def lrW (cy : Nat → ClassId) (ad : Nat → Nat) (la : Nat → Nat → Nat) (ν : gM) : va_W := (lrK ν).map (lcell cy ad la ν)
theorem lnew_pre0 (h0 : lLs ν = 0) (hM : hW D cy ad b μ (lws cy ad la ν) T H) : hW D cy ad b μ (lrW cy ad la ν ++ T) [(la 6 0, .inr (13, [.int (gi ν 6 0), .ref (ad 461), .int (nI 0)]))] H := by
  refine hW.perm ?_ hM
  have p1 := lk_split (ν := ν)
  rw [if_pos h0, List.nil_append] at p1
  have p2 : (lws cy ad la ν).Perm (lcell cy ad la ν (6, 0) :: lrW cy ad la ν) := p1.map _
  have e : lcell cy ad la ν (6, 0) = (la 6 0, .inr (13, [.int (gi ν 6 0), .ref (ad 461), .int (nI 0)])) := by
    show (la 6 0, Sum.inr (13, [Value.int (gi ν 6 0), .ref (if lLs ν = 0 then ad 461 else la 7 0), .int (nI (lLs ν))])) = _
    rw [if_pos h0, h0]
  rw [e] at p2
  refine (p2.append_right _).trans ?_
  show ([_] ++ (lrW cy ad la ν ++ T)).Perm _
  exact List.perm_append_comm
theorem lnew_pre1 (h0 : lLs ν ≠ 0) (hM : hW D cy ad b μ (lws cy ad la ν) T H) : hW D cy ad b μ (lrW cy ad la ν ++ T) [(la 6 0, .inr (13, [.int (gi ν 6 0), .ref (la 7 0), .int (nI (lLs ν))])), (la 7 0, .inl (cy 4, (gi ν 7 0).toNatClampNeg, .inr (.inr (.inr (.inr (lRf (lLs ν) (la 40)))))))] H := by
  refine hW.perm ?_ hM
  have p1 := lk_split (ν := ν)
  rw [if_neg h0] at p1
  have p2 : (lws cy ad la ν).Perm (lcell cy ad la ν (6, 0) :: lcell cy ad la ν (7, 0) :: lrW cy ad la ν) := p1.map _
  have e : lcell cy ad la ν (6, 0) = (la 6 0, .inr (13, [.int (gi ν 6 0), .ref (la 7 0), .int (nI (lLs ν))])) := by
    show (la 6 0, Sum.inr (13, [Value.int (gi ν 6 0), .ref (if lLs ν = 0 then ad 461 else la 7 0), .int (nI (lLs ν))])) = _
    rw [if_neg h0]
  rw [e] at p2
  exact l_rot p2
theorem lnew_post (hs : lS ν) (hn : lLs ν < 11) (hc : c < 100) (hM : hW D cy ad b μ (lrW cy ad la ν ++ ((a, .inr (13, [.int (0 : Int32), .ref (ad 461), .int (0 : Int32)])) :: T)) [(la 6 0, .inr (13, [.int (gi ν 6 0 + 1), .ref ar, .int (nI (lLs ν + 1))])), (ar, .inl (cy 4, c, .inr (.inr (.inr (.inr (lRf (lLs ν + 1) (lset la 40 (lLs ν) a 40)))))))] H) :
    hW D cy ad b μ (lws cy ad (lset (lset la 40 (lLs ν) a) 7 0 ar) (lnew ν c)) T H := by
  refine hW.perm ?_ hM
  have p3 := (lk_new (c := c) hn).map (lcell cy ad (lset (lset la 40 (lLs ν) a) 7 0 ar) (lnew ν c))
  have e1 : (lrK ν).map (lcell cy ad (lset (lset la 40 (lLs ν) a) 7 0 ar) (lnew ν c)) = lrW cy ad la ν := List.map_congr_left (fun q hq => lnew_cell hs hn hq)
  have e2 : lcell cy ad (lset (lset la 40 (lLs ν) a) 7 0 ar) (lnew ν c) (40, lLs ν) = (a, .inr (13, [.int (0 : Int32), .ref (ad 461), .int (0 : Int32)])) := by
    show (lset (lset la 40 (lLs ν) a) 7 0 ar 40 (lLs ν), Sum.inr (13, [Value.int (gi (lnew ν c) (40 + lLs ν) 0), .ref (if lSz (lnew ν c) (lLs ν) = 0 then ad 461 else _), .int (nI (lSz (lnew ν c) (lLs ν)))])) = _
    rw [lnew_szn, if_pos rfl, lset_ne (by omega), lset_eq, lnew_40 (Or.inl rfl)]
    rfl
  have e6 : lcell cy ad (lset (lset la 40 (lLs ν) a) 7 0 ar) (lnew ν c) (6, 0) = (la 6 0, .inr (13, [.int (gi ν 6 0 + 1), .ref ar, .int (nI (lLs ν + 1))])) := by
    show (lset (lset la 40 (lLs ν) a) 7 0 ar 6 0, Sum.inr (13, [Value.int ((lnew ν c).1 6 0), .ref (if lLs (lnew ν c) = 0 then ad 461 else lset (lset la 40 (lLs ν) a) 7 0 ar 7 0), .int (nI (lLs (lnew ν c)))])) = _
    rw [lnew_ls (by omega), if_neg (by omega), lset_eq, lset_ne (show 6 ≠ 7 by omega), lset_ne (show 6 ≠ 40 by omega), lnew_6]
    rfl
  have e7 : lcell cy ad (lset (lset la 40 (lLs ν) a) 7 0 ar) (lnew ν c) (7, 0) = (ar, .inl (cy 4, c, .inr (.inr (.inr (.inr (lRf (lLs ν + 1) (lset la 40 (lLs ν) a 40))))))) := by
    show (lset (lset la 40 (lLs ν) a) 7 0 ar 7 0, Sum.inl (cy 4, (gi (lnew ν c) 7 0).toNatClampNeg, Sum.inr (Sum.inr (Sum.inr (Sum.inr (lRf (lLs (lnew ν c)) (lset (lset la 40 (lLs ν) a) 7 0 ar 40))))))) = _
    rw [lset_eq, lnew_7, nI_clamp (by omega), lnew_ls (by omega), lset_ne (show 40 ≠ 7 by omega)]
  rw [List.map_cons, List.map_cons, List.map_append, e1, List.map_cons, e2, e6, e7] at p3
  refine List.Perm.trans ?_ (l_rot (B := T) p3).symm
  refine List.Perm.append_right _ ?_
  rw [List.append_assoc]
  rfl
theorem lRf_0 : va_up (fun _ => none) 0 (some a) = lRf (0 + 1) (lset la 40 0 a 40) := by
  funext j
  show (if j = 0 then some a else none) = (if j < 0 + 1 then some (lset la 40 0 a 40 j) else none)
  by_cases c : j = 0
  · rw [if_pos c, if_pos (by omega), c, lset_eq]
  · rw [if_neg c, if_neg (by omega)]
theorem lRf_s {n : Nat} : va_up (lRf n (la 40)) n (some a) = lRf (n + 1) (lset la 40 n a 40) := by
  funext j
  show (if j = n then some a else if j < n then some (la 40 j) else none) = (if j < n + 1 then some (lset la 40 n a 40 j) else none)
  by_cases c : j = n
  · rw [if_pos c, if_pos (by omega), c, lset_eq]
  · rw [if_neg c, lset_ne2 (fun q => c q.2)]
    by_cases d : j < n
    · rw [if_pos d, if_pos (by omega)]
    · rw [if_neg d, if_neg (by omega)]
theorem lRf_10 : va_up (va_cpy (lRf 10 (la 40)) (fun _ => none) 0 0 10) 10 (some a) = lRf (10 + 1) (lset la 40 10 a 40) := by
  have e : va_cpy (lRf 10 (la 40)) (fun _ => none) 0 0 10 = lRf 10 (la 40) := by
    funext j
    by_cases h : j < 10
    · rw [pk_cpy_in (Nat.zero_le j) (by omega)]
      show lRf 10 (la 40) (0 + (j - 0)) = _
      rw [Nat.zero_add, Nat.sub_zero]
    · rw [pk_cpy_out (Or.inr (by omega))]
      exact (if_neg h).symm
  rw [e]
  exact lRf_s
end LNEW

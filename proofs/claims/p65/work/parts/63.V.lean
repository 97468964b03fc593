/-- all ints of a cell at once -/
def sia (ν : gM) (id : Nat) (g : Nat → Int32) : gM := (fun x => if x = id then g else ν.1 x, ν.2)
/-- one more setup in list k -/
def lgrow (ν : gM) (k : Nat) (g : Nat → Int32) : gM := sia (si (si ν (40 + k) 0 (gi ν (40 + k) 0 + 1)) (40 + k) 2 (nI (lSz ν k + 1))) (100 + 8 * k + lSz ν k) g
theorem flatMap_one {α : Type} {f f' : Nat → List α} {x : α} {k : Nat} (h1 : f' k = f k ++ [x]) (h2 : ∀ j, j ≠ k → f' j = f j) : ∀ l : List Nat, l.Nodup → k ∈ l → (l.flatMap f').Perm (l.flatMap f ++ [x])
  | [], _, h => absurd h List.not_mem_nil
  | a :: t, hn, hk => by
    rw [List.flatMap_cons, List.flatMap_cons]
    have hn := List.nodup_cons.mp hn
    by_cases c : a = k
    · subst c
      have e : t.flatMap f' = t.flatMap f := congrArg List.flatten (List.map_congr_left (fun j hj => h2 j (fun q => hn.1 (q ▸ hj))))
      rw [e, h1, List.append_assoc, List.append_assoc]
      exact List.Perm.append_left _ List.perm_append_comm
    · rw [h2 a c, List.append_assoc]
      exact List.Perm.append_left _ (flatMap_one h1 h2 t hn.2 ((List.mem_cons.mp hk).resolve_left (fun q => c q.symm)))
section LGROW
variable {cy : Nat → ClassId} {ad : Nat → Nat} {la : Nat → Nat → Nat} {ν : gM} {k a : Nat} {g : Nat → Int32}
theorem lgrow_40 : (lgrow ν k g).1 (40 + k) = fun i => if i = 2 then nI (lSz ν k + 1) else if i = 0 then gi ν (40 + k) 0 + 1 else ν.1 (40 + k) i := by
  funext i
  show (if 40 + k = 100 + 8 * k + lSz ν k then g else _) i = _
  rw [if_neg (by omega)]
  show (if 40 + k = 40 + k ∧ i = 2 then _ else (if 40 + k = 40 + k ∧ i = 0 then _ else _)) = _
  by_cases c : i = 2
  · rw [if_pos ⟨rfl, c⟩, if_pos c]
  · rw [if_neg (fun q => c q.2), if_neg c]
    by_cases d : i = 0
    · rw [if_pos ⟨rfl, d⟩, if_pos d]
    · rw [if_neg (fun q => d q.2), if_neg d]
theorem lgrow_ne {x : Nat} (h1 : x ≠ 40 + k) (h2 : x ≠ 100 + 8 * k + lSz ν k) : (lgrow ν k g).1 x = ν.1 x := by
  show (if x = 100 + 8 * k + lSz ν k then g else _) = _
  rw [if_neg h2]
  funext i
  show (if x = 40 + k ∧ i = 2 then _ else (if x = 40 + k ∧ i = 0 then _ else _)) = _
  rw [if_neg (fun q => h1 q.1), if_neg (fun q => h1 q.1)]
theorem lgrow_g : (lgrow ν k g).1 (100 + 8 * k + lSz ν k) = g := if_pos rfl
theorem lgrow_ln (hk : k < 20) : lLn (lgrow ν k g) = lLn ν := by unfold lLn gi; rw [lgrow_ne (by omega) (by omega)]
theorem lgrow_pt (hk : k < 20) : lPt (lgrow ν k g) = lPt ν := by unfold lPt gi; rw [lgrow_ne (by omega) (by omega)]
theorem lgrow_ls (hk : k < 20) : lLs (lgrow ν k g) = lLs ν := by unfold lLs gi; rw [lgrow_ne (by omega) (by omega)]
theorem lgrow_szk (h8 : lSz ν k < 8) : lSz (lgrow ν k g) k = lSz ν k + 1 := by
  show (gi (lgrow ν k g) (40 + k) 2).toNatClampNeg = _
  unfold gi
  rw [lgrow_40]
  show (nI (lSz ν k + 1)).toNatClampNeg = _
  exact nI_clamp (by omega)
theorem lgrow_sz {j : Nat} (hj : j ≠ k) (hj2 : j < 20) : lSz (lgrow ν k g) j = lSz ν j := by
  show (gi (lgrow ν k g) (40 + j) 2).toNatClampNeg = _
  unfold gi
  rw [lgrow_ne (by omega) (by omega)]
  rfl
theorem lgrow_S (hs : lS ν) (hk : k < lLs ν) (h8 : lSz ν k < 8) : lS (lgrow ν k g) := by
  have hL := hs.2.2.1.1
  obtain ⟨⟨a1, a2⟩, ⟨b1, b2⟩, ⟨c0, c1, c2, c3⟩, d⟩ := hs
  have e0 : (lgrow ν k g).1 0 = ν.1 0 := lgrow_ne (by omega) (by omega)
  have e7 : (lgrow ν k g).1 7 = ν.1 7 := lgrow_ne (by omega) (by omega)
  have e6 : (lgrow ν k g).1 6 = ν.1 6 := lgrow_ne (by omega) (by omega)
  refine ⟨⟨by rw [lgrow_ln (by omega)]; exact a1, ?_⟩, ⟨by rw [lgrow_pt (by omega)]; exact b1, ?_⟩, ⟨by rw [lgrow_ls (by omega)]; exact c0, ?_, ?_, ?_⟩, fun j hj => ?_⟩
  · rw [lgrow_ln (by omega)]; unfold gi; rw [e0]; exact a2
  · rw [lgrow_pt (by omega)]; unfold gi; rw [e0]; exact b2
  · rw [lgrow_ls (by omega)]; unfold gi; rw [e7]; exact c1
  · unfold gi; rw [e7]; exact c2
  · rw [lgrow_ls (by omega)]; unfold gi; rw [e6]; exact c3
  · rw [lgrow_ls (by omega)] at hj
    by_cases c : j = k
    · subst c; rw [lgrow_szk h8]; omega
    · rw [lgrow_sz c (by omega)]; exact d j hj
theorem lgrow_F (hs : lS ν) (hf : lF ν) (hk : k < lLs ν) (h8 : lSz ν k < 8) : lF (lgrow ν k g) := by
  have hL := hs.2.2.1.1
  obtain ⟨f1, f2, f3⟩ := hf
  refine ⟨by rw [lgrow_ls (by omega), lgrow_ln (by omega)]; exact f1, by rw [lgrow_ln (by omega)]; exact f2, fun j hj => ?_⟩
  rw [lgrow_ln (by omega)] at hj
  by_cases c : j = k
  · subst c; rw [lgrow_szk h8]; omega
  · rw [lgrow_sz c (by omega)]; exact f3 j hj
theorem lgrow_keys (hk : k < lLs ν) (hL : lLs ν ≤ 11) (h8 : lSz ν k < 8) (h0 : lSz ν k ≠ 0) : (lkeys (lgrow ν k g)).Perm (lkeys ν ++ [(100 + k, lSz ν k)]) := by
  have e3 : lk3 (lgrow ν k g) = lk3 ν := by unfold lk3 gi; rw [lgrow_ne (by omega) (by omega)]
  have e4 : lk4 (lgrow ν k g) = lk4 ν := by unfold lk4; rw [lgrow_ln (by omega), lgrow_ls (by omega)]
  have e2 : lk2 (lgrow ν k g) k = lk2 ν k ++ [(100 + k, lSz ν k)] := by
    unfold lk2
    rw [lgrow_szk h8, if_neg (by omega), if_neg h0, List.range_succ, List.map_append]
    rfl
  have hp := flatMap_one (f := lk2 ν) (f' := fun j => if j < 20 then lk2 (lgrow ν k g) j else lk2 ν j) (x := (100 + k, lSz ν k)) (k := k) (by show (if k < 20 then _ else _) = _; rw [if_pos (by omega)]; exact e2) (fun j hj => by
    show (if j < 20 then _ else _) = _
    by_cases c : j < 20
    · rw [if_pos c]; unfold lk2; rw [lgrow_sz hj c]
    · rw [if_neg c]) (List.range (lLs ν)) List.nodup_range (List.mem_range.mpr hk)
  have e5 : (List.range (lLs ν)).flatMap (fun j => if j < 20 then lk2 (lgrow ν k g) j else lk2 ν j) = (List.range (lLs ν)).flatMap (lk2 (lgrow ν k g)) := by
    refine congrArg List.flatten (List.map_congr_left (fun j hj => ?_))
    rw [if_pos (by have := List.mem_range.mp hj; omega)]
  rw [e5] at hp
  unfold lkeys
  rw [e3, e4, lgrow_ls (by omega), List.append_assoc, List.append_assoc, List.append_assoc]
  refine List.Perm.append_left _ (List.Perm.append_left _ ?_)
  refine (hp.append_right _).trans ?_
  rw [List.append_assoc]
  exact List.Perm.append_left _ List.perm_append_comm
theorem lgrow_cell (hs : lS ν) (hk : k < lLs ν) (h8 : lSz ν k < 8) {q : Nat × Nat} (hq : q ∈ lkeys ν) (h1 : q ≠ (40, k)) (h2 : q ≠ (60, k)) : lcell cy ad (lset la (100 + k) (lSz ν k) a) (lgrow ν k g) q = lcell cy ad la ν q := by
  have hL := hs.2.2.1.1
  have hL0 := hs.1.1
  have hz := hs.2.2.2
  obtain ⟨x, i⟩ := q
  have hid : ∀ y, y < 40 → (lgrow ν k g).1 y = ν.1 y := fun y hy => lgrow_ne (by omega) (by omega)
  rcases lkeys_mem.mp hq with ⟨p1, p2, -⟩ | ⟨p1, p2⟩ | ⟨p1, p2⟩ | ⟨p1, p2, p3⟩ | ⟨p1, -⟩
  · have p2 : i = 0 := p2
    subst p2
    have p1 : x < 9 := p1
    unfold lcell
    rw [lset_ne (show x ≠ 100 + k by omega)]
    congr 1
    rcases (by omega : x = 0 ∨ x = 1 ∨ x = 2 ∨ x = 3 ∨ x = 4 ∨ x = 5 ∨ x = 6 ∨ x = 7 ∨ x = 8) with rfl | rfl | rfl | rfl | rfl | rfl | rfl | rfl | rfl
    · show lO ad _ (lgrow ν k g) = lO ad la ν
      unfold lO lHv gi
      rw [hid 0 (by omega), lset_ne (by omega), lset_ne (by omega), lset_ne (by omega), lset_ne (by omega), lset_ne (by omega), lset_ne (by omega), lset_ne (by omega), lset_ne (by omega)]
    · show Sum.inl (cy 0, 2, Sum.inl ((lgrow ν k g).1 1)) = _; rw [hid 1 (by omega)]; rfl
    · show Sum.inl (cy 0, 16, Sum.inl ((lgrow ν k g).1 2)) = _; rw [hid 2 (by omega)]; rfl
    · show Sum.inl (cy 5, lLn (lgrow ν k g), Sum.inr (Sum.inr (Sum.inr (Sum.inr (lRf (lLn (lgrow ν k g)) (lset la (100 + k) (lSz ν k) a 20)))))) = _; rw [lgrow_ln (by omega), lset_ne (by omega)]; rfl
    · show Sum.inl (cy 0, lLn (lgrow ν k g), Sum.inl ((lgrow ν k g).1 4)) = _; rw [lgrow_ln (by omega), hid 4 (by omega)]; rfl
    · show Sum.inl (cy 3, lLn (lgrow ν k g), Sum.inl ((lgrow ν k g).1 5)) = _; rw [lgrow_ln (by omega), hid 5 (by omega)]; rfl
    · show Sum.inr (13, [Value.int ((lgrow ν k g).1 6 0), .ref (if lLs (lgrow ν k g) = 0 then ad 461 else lset la (100 + k) (lSz ν k) a 7 0), .int (nI (lLs (lgrow ν k g)))]) = _; rw [lgrow_ls (by omega), hid 6 (by omega), lset_ne (by omega)]; rfl
    · show Sum.inl (cy 4, ((lgrow ν k g).1 7 0).toNatClampNeg, Sum.inr (Sum.inr (Sum.inr (Sum.inr (lRf (lLs (lgrow ν k g)) (lset la (100 + k) (lSz ν k) a 40)))))) = _; rw [lgrow_ls (by omega), hid 7 (by omega), lset_ne (by omega)]; rfl
    · show Sum.inl (cy 0, 3, Sum.inl ((lgrow ν k g).1 8)) = _; rw [hid 8 (by omega)]; rfl
  · have p1 : x = 20 := p1
    subst p1
    have p2 : i < lLn ν := p2
    unfold lcell
    rw [lset_ne (show 20 ≠ 100 + k by omega)]
    congr 1
    show Sum.inl (cy 0, 2, Sum.inl ((lgrow ν k g).1 (20 + i))) = _; rw [hid (20 + i) (by omega)]; rfl
  · have p2 : i < lLs ν := p2
    rcases p1 with p1 | ⟨p1, -⟩
    · have p1 : x = 40 := p1
      subst p1
      have hik : i ≠ k := fun e => h1 (by rw [e])
      unfold lcell
      rw [lset_ne (show 40 ≠ 100 + k by omega)]
      congr 1
      show Sum.inr (13, [Value.int ((lgrow ν k g).1 (40 + i) 0), .ref (if lSz (lgrow ν k g) i = 0 then ad 461 else lset la (100 + k) (lSz ν k) a 60 i), .int (nI (lSz (lgrow ν k g) i))]) = _
      rw [lgrow_sz hik (by omega), lset_ne (by omega), lgrow_ne (by omega) (by omega)]; rfl
    · have p1 : x = 60 := p1
      subst p1
      have hik : i ≠ k := fun e => h2 (by rw [e])
      unfold lcell
      rw [lset_ne (show 60 ≠ 100 + k by omega)]
      congr 1
      show Sum.inl (cy 4, 10, Sum.inr (Sum.inr (Sum.inr (Sum.inr (lRf (lSz (lgrow ν k g) i) (lset la (100 + k) (lSz ν k) a (100 + i))))))) = _
      rw [lgrow_sz hik (by omega), lset_ne (by omega)]; rfl
  · have p1 : 100 ≤ x := p1
    obtain ⟨j, rfl⟩ : ∃ j, x = 100 + j := ⟨x - 100, by omega⟩
    have e : 100 + j - 100 = j := by omega
    have p2 : 100 + j - 100 < lLs ν := p2
    have p3 : i < lSz ν (100 + j - 100) := p3
    rw [e] at p2 p3
    have hij : ¬ (j = k ∧ i = lSz ν k) := by
      rintro ⟨rfl, rfl⟩
      omega
    have := hz j p2
    unfold lcell
    rw [lE_100, lE_100]
    show (lset la (100 + k) (lSz ν k) a (100 + j) i, _) = (la (100 + j) i, _)
    rw [lset_ne2 (fun q => hij ⟨by omega, q.2⟩), lgrow_ne (by omega) (fun q => hij (by omega))]
  · cases p1
    unfold lcell
    rw [lset_ne (show 9 ≠ 100 + k by omega)]
    congr 1
    show Sum.inl (cy 1, lPt (lgrow ν k g), Sum.inr (Sum.inl (ν.2 9))) = _
    rw [lgrow_pt (by omega)]; rfl
end LGROW
section LADD
variable {D : va_G} {cy : Nat → ClassId} {ad : Nat → Nat} {la : Nat → Nat → Nat} {b a : Nat} {μ ν : gM} {H : Heap} {k : Nat} {g : Nat → Int32} {T : va_W}
def lrest (cy : Nat → ClassId) (ad : Nat → Nat) (la : Nat → Nat → Nat) (ν : gM) (k : Nat) : va_W := (((lkeys ν).erase (40, k)).erase (60, k)).map (lcell cy ad la ν)
theorem l_rot {α : Type} {A B : List α} {x y : α} {L : List α} (h : L.Perm (x :: y :: A)) : (L ++ B).Perm ((A ++ B) ++ [x, y]) := by
  refine (h.append_right B).trans ?_
  show ([x, y] ++ (A ++ B)).Perm _
  exact List.perm_append_comm
theorem lsplit (hk : k < lLs ν) (h0 : lSz ν k ≠ 0) : (lkeys ν).Perm ((40, k) :: (60, k) :: ((lkeys ν).erase (40, k)).erase (60, k)) := by
  have m40 : ((40, k) : Nat × Nat) ∈ lkeys ν := lkeys_mem.mpr (Or.inr (Or.inr (Or.inl ⟨Or.inl rfl, hk⟩)))
  have m60 : ((60, k) : Nat × Nat) ∈ lkeys ν := lkeys_mem.mpr (Or.inr (Or.inr (Or.inl ⟨Or.inr ⟨rfl, h0⟩, hk⟩)))
  have m60' : ((60, k) : Nat × Nat) ∈ (lkeys ν).erase (40, k) := (List.mem_erase_of_ne (by intro e; cases e)).mpr m60
  exact (List.perm_cons_erase m40).trans (List.Perm.cons _ (List.perm_cons_erase m60'))
theorem ladd_pre (hk : k < lLs ν) (h0 : lSz ν k ≠ 0) (hM : hW D cy ad b μ (lws cy ad la ν) ((a, .inl (cy 0, 4, .inl g)) :: T) H) :
    hW D cy ad b μ (lrest cy ad la ν k ++ ((a, .inl (cy 0, 4, .inl g)) :: T)) [(la 40 k, .inr (13, [.int (gi ν (40 + k) 0), .ref (la 60 k), .int (nI (lSz ν k))])), (la 60 k, .inl (cy 4, 10, .inr (.inr (.inr (.inr (lRf (lSz ν k) (la (100 + k))))))))] H := by
  refine hW.perm ?_ hM
  have p1 : (lws cy ad la ν).Perm (lcell cy ad la ν (40, k) :: lcell cy ad la ν (60, k) :: lrest cy ad la ν k) := (lsplit hk h0).map _
  have e40 : lcell cy ad la ν (40, k) = (la 40 k, .inr (13, [.int (gi ν (40 + k) 0), .ref (la 60 k), .int (nI (lSz ν k))])) := by
    show (la 40 k, Sum.inr (13, [Value.int (gi ν (40 + k) 0), .ref (if lSz ν k = 0 then ad 461 else la 60 k), .int (nI (lSz ν k))])) = _
    rw [if_neg h0]
  rw [e40] at p1
  exact l_rot p1
theorem ladd_post (hs : lS ν) (hk : k < lLs ν) (h0 : lSz ν k ≠ 0) (h8 : lSz ν k < 8) (hnd : (lkeys ν).Nodup) (hM : hW D cy ad b μ (lrest cy ad la ν k ++ ((a, .inl (cy 0, 4, .inl g)) :: T)) [(la 40 k, .inr (13, [.int (gi ν (40 + k) 0 + 1), .ref (la 60 k), .int (nI (lSz ν k + 1))])), (la 60 k, .inl (cy 4, 10, .inr (.inr (.inr (.inr (va_up (lRf (lSz ν k) (la (100 + k))) (lSz ν k) (some a)))))))] H) :
    hW D cy ad b μ (lws cy ad (lset la (100 + k) (lSz ν k) a) (lgrow ν k g)) T H := by
  have hL := hs.2.2.1.1
  have m40 : ((40, k) : Nat × Nat) ∈ lkeys ν := lkeys_mem.mpr (Or.inr (Or.inr (Or.inl ⟨Or.inl rfl, hk⟩)))
  have m60 : ((60, k) : Nat × Nat) ∈ lkeys ν := lkeys_mem.mpr (Or.inr (Or.inr (Or.inl ⟨Or.inr ⟨rfl, h0⟩, hk⟩)))
  refine hW.perm ?_ hM
  have p1 : (lws cy ad (lset la (100 + k) (lSz ν k) a) (lgrow ν k g)).Perm (lcell cy ad (lset la (100 + k) (lSz ν k) a) (lgrow ν k g) (40, k) :: lcell cy ad (lset la (100 + k) (lSz ν k) a) (lgrow ν k g) (60, k) :: (lrest cy ad la ν k ++ [(a, .inl (cy 0, 4, .inl g))])) := by
    have p2 : (lkeys (lgrow ν k g)).Perm ((40, k) :: (60, k) :: (((lkeys ν).erase (40, k)).erase (60, k) ++ [(100 + k, lSz ν k)])) := (lgrow_keys hk hL h8 h0).trans ((lsplit hk h0).append_right _)
    have p3 := p2.map (lcell cy ad (lset la (100 + k) (lSz ν k) a) (lgrow ν k g))
    have e1 : (((lkeys ν).erase (40, k)).erase (60, k)).map (lcell cy ad (lset la (100 + k) (lSz ν k) a) (lgrow ν k g)) = lrest cy ad la ν k := by
      refine List.map_congr_left (fun q hq => ?_)
      have n1 : ((lkeys ν).erase (40, k)).Nodup := hnd.erase _
      have q1 := (List.Nodup.mem_erase_iff n1).mp hq
      have q2 := (List.Nodup.mem_erase_iff hnd).mp q1.2
      exact lgrow_cell hs hk h8 q2.2 q2.1 q1.1
    have e2 : lcell cy ad (lset la (100 + k) (lSz ν k) a) (lgrow ν k g) (100 + k, lSz ν k) = (a, .inl (cy 0, 4, .inl g)) := by
      unfold lcell
      rw [lE_100, lgrow_g, lset_eq]
    rw [List.map_cons, List.map_cons, List.map_append, e1, List.map_cons, e2] at p3
    exact p3
  have e40 : lcell cy ad (lset la (100 + k) (lSz ν k) a) (lgrow ν k g) (40, k) = (la 40 k, .inr (13, [.int (gi ν (40 + k) 0 + 1), .ref (la 60 k), .int (nI (lSz ν k + 1))])) := by
    show (lset la (100 + k) (lSz ν k) a 40 k, Sum.inr (13, [Value.int ((lgrow ν k g).1 (40 + k) 0), .ref (if lSz (lgrow ν k g) k = 0 then ad 461 else lset la (100 + k) (lSz ν k) a 60 k), .int (nI (lSz (lgrow ν k g) k))])) = _
    rw [lgrow_szk h8, if_neg (by omega), lset_ne (by omega), lset_ne (by omega), lgrow_40]
    rfl
  have e60 : lcell cy ad (lset la (100 + k) (lSz ν k) a) (lgrow ν k g) (60, k) = (la 60 k, .inl (cy 4, 10, .inr (.inr (.inr (.inr (va_up (lRf (lSz ν k) (la (100 + k))) (lSz ν k) (some a))))))) := by
    show (lset la (100 + k) (lSz ν k) a 60 k, Sum.inl (cy 4, 10, Sum.inr (Sum.inr (Sum.inr (Sum.inr (lRf (lSz (lgrow ν k g) k) (lset la (100 + k) (lSz ν k) a (100 + k)))))))) = _
    rw [lgrow_szk h8, lset_ne (by omega)]
    have e : lRf (lSz ν k + 1) (lset la (100 + k) (lSz ν k) a (100 + k)) = va_up (lRf (lSz ν k) (la (100 + k))) (lSz ν k) (some a) := by
      funext j
      show (if j < lSz ν k + 1 then some (lset la (100 + k) (lSz ν k) a (100 + k) j) else none) = (if j = lSz ν k then some a else if j < lSz ν k then some (la (100 + k) j) else none)
      by_cases c : j = lSz ν k
      · rw [if_pos c, if_pos (by omega), c, lset_eq]
      · rw [if_neg c, lset_ne2 (fun q => c q.2)]
        by_cases d : j < lSz ν k
        · rw [if_pos d, if_pos (by omega)]
        · rw [if_neg d, if_neg (by omega)]
    rw [e]
  rw [e40, e60] at p1
  refine List.Perm.trans ?_ (l_rot (B := T) p1).symm
  refine List.Perm.append_right _ ?_
  rw [List.append_assoc]
  rfl
end LADD

/-! the first setup of a list -/
theorem flatMap_add {α : Type} {f f' : Nat → List α} {X : List α} {k : Nat} (h1 : f' k = f k ++ X) (h2 : ∀ j, j ≠ k → f' j = f j) : ∀ l : List Nat, l.Nodup → k ∈ l → (l.flatMap f').Perm (l.flatMap f ++ X)
  | [], _, h => absurd h List.not_mem_nil
  | a :: t, hn, hk => by
    rw [List.flatMap_cons, List.flatMap_cons]
    have hn := List.nodup_cons.mp hn
    by_cases c : a = k
    · subst c
      have e : t.flatMap f' = t.flatMap f := congrArg List.flatten (List.map_congr_left (fun j hj => h2 j (fun q => hn.1 (q ▸ hj))))
      rw [e, h1, List.append_assoc, List.append_assoc]
      exact List.Perm.append_left _ List.perm_append_comm
    · rw [h2 a c, List.append_assoc]
      exact List.Perm.append_left _ (flatMap_add h1 h2 t hn.2 ((List.mem_cons.mp hk).resolve_left (fun q => c q.symm)))
section LADD0
variable {D : va_G} {cy : Nat → ClassId} {ad : Nat → Nat} {la : Nat → Nat → Nat} {b a ar : Nat} {μ ν : gM} {H : Heap} {k : Nat} {g : Nat → Int32} {T : va_W}
theorem lgrow_keys0 (hk : k < lLs ν) (hL : lLs ν ≤ 11) (h0 : lSz ν k = 0) : (lkeys (lgrow ν k g)).Perm (lkeys ν ++ [(60, k), (100 + k, 0)]) := by
  have h8 : lSz ν k < 8 := by omega
  have e3 : lk3 (lgrow ν k g) = lk3 ν := by unfold lk3 gi; rw [lgrow_ne (by omega) (by omega)]
  have e4 : lk4 (lgrow ν k g) = lk4 ν := by unfold lk4; rw [lgrow_ln (by omega), lgrow_ls (by omega)]
  have e2 : lk2 (lgrow ν k g) k = lk2 ν k ++ [(60, k), (100 + k, 0)] := by
    unfold lk2
    rw [lgrow_szk h8, if_neg (by omega), if_pos h0, h0]
    rfl
  have hp := flatMap_add (f := lk2 ν) (f' := fun j => if j < 20 then lk2 (lgrow ν k g) j else lk2 ν j) (X := [(60, k), (100 + k, 0)]) (k := k) (by show (if k < 20 then _ else _) = _; rw [if_pos (by omega)]; exact e2) (fun j hj => by
    show (if j < 20 then _ else _) = _
    by_cases c : j < 20
    · rw [if_pos c]; unfold lk2; rw [lgrow_sz hj c]
    · rw [if_neg c]) (List.range (lLs ν)) List.nodup_range (List.mem_range.mpr hk)
  have e5 : (List.range (lLs ν)).flatMap (fun j => if j < 20 then lk2 (lgrow ν k g) j else lk2 ν j) = (List.range (lLs ν)).flatMap (lk2 (lgrow ν k g)) := by
    refine congrArg List.flatten (List.map_congr_left (fun j hj => ?_))
    rw [if_pos (by have := List.mem_range.mp hj; omega)]
  rw [e5] at hp
  unfold lkeys
  rw [e3, e4, lgrow_ls (by omega), List.append_assoc, List.append_assoc, List.append_assoc]
  refine List.Perm.append_left _ (List.Perm.append_left _ ?_)
  refine (hp.append_right _).trans ?_
  rw [List.append_assoc]
  exact List.Perm.append_left _ List.perm_append_comm
/-- another address of one row: the other cells don't see it -/
theorem lcell_60 {q : Nat × Nat} (h1 : q ≠ (40, k)) (h2 : q ≠ (60, k)) : lcell cy ad (lset la 60 k ar) ν q = lcell cy ad la ν q := by
  obtain ⟨x, i⟩ := q
  have e1 : lset la 60 k ar x i = la x i := lset_ne2 (fun q => h2 (by rw [q.1, q.2]))
  have e2 : x = 40 → lset la 60 k ar 60 i = la 60 i := fun hx => lset_ne2 (fun q => h1 (by rw [hx, q.2]))
  unfold lcell
  show (lset la 60 k ar x i, lE cy ad (lset la 60 k ar) ν (x, i)) = (la x i, lE cy ad la ν (x, i))
  rw [e1]
  congr 1
  unfold lE lO lHv
  show (if x = 0 then _ else _) = (if x = 0 then _ else _)
  rw [lset_ne (show 1 ≠ 60 by omega), lset_ne (show 2 ≠ 60 by omega), lset_ne (show 3 ≠ 60 by omega), lset_ne (show 4 ≠ 60 by omega), lset_ne (show 5 ≠ 60 by omega), lset_ne (show 6 ≠ 60 by omega), lset_ne (show 7 ≠ 60 by omega), lset_ne (show 8 ≠ 60 by omega), lset_ne (show 9 ≠ 60 by omega), lset_ne (show 20 ≠ 60 by omega), lset_ne (show 40 ≠ 60 by omega), lset_ne (show 100 + i ≠ 60 by omega)]
  by_cases c : x = 40
  · rw [e2 c]
  · rw [if_neg c, if_neg c]
def lrest1 (cy : Nat → ClassId) (ad : Nat → Nat) (la : Nat → Nat → Nat) (ν : gM) (k : Nat) : va_W := ((lkeys ν).erase (40, k)).map (lcell cy ad la ν)
theorem ladd0_pre (hk : k < lLs ν) (h0 : lSz ν k = 0) (hM : hW D cy ad b μ (lws cy ad la ν) ((a, .inl (cy 0, 4, .inl g)) :: T) H) :
    hW D cy ad b μ (lrest1 cy ad la ν k ++ ((a, .inl (cy 0, 4, .inl g)) :: T)) [(la 40 k, .inr (13, [.int (gi ν (40 + k) 0), .ref (ad 461), .int (nI 0)]))] H := by
  have m40 : ((40, k) : Nat × Nat) ∈ lkeys ν := lkeys_mem.mpr (Or.inr (Or.inr (Or.inl ⟨Or.inl rfl, hk⟩)))
  refine hW.perm ?_ hM
  have p1 : (lws cy ad la ν).Perm (lcell cy ad la ν (40, k) :: lrest1 cy ad la ν k) := (List.perm_cons_erase m40).map _
  have e40 : lcell cy ad la ν (40, k) = (la 40 k, .inr (13, [.int (gi ν (40 + k) 0), .ref (ad 461), .int (nI 0)])) := by
    show (la 40 k, Sum.inr (13, [Value.int (gi ν (40 + k) 0), .ref (if lSz ν k = 0 then ad 461 else la 60 k), .int (nI (lSz ν k))])) = _
    rw [if_pos h0, h0]
  rw [e40] at p1
  refine (p1.append_right _).trans ?_
  show ([_] ++ (lrest1 cy ad la ν k ++ _)).Perm _
  exact List.perm_append_comm
theorem ladd0_post (hs : lS ν) (hk : k < lLs ν) (h0 : lSz ν k = 0) (hnd : (lkeys ν).Nodup) (hM : hW D cy ad b μ (lrest1 cy ad la ν k ++ ((a, .inl (cy 0, 4, .inl g)) :: T)) [(la 40 k, .inr (13, [.int (gi ν (40 + k) 0 + 1), .ref ar, .int (nI 1)])), (ar, .inl (cy 4, 10, .inr (.inr (.inr (.inr (va_up (fun _ => none) 0 (some a)))))))] H) :
    hW D cy ad b μ (lws cy ad (lset (lset la (100 + k) 0 a) 60 k ar) (lgrow ν k g)) T H := by
  have hL := hs.2.2.1.1
  have h8 : lSz ν k < 8 := by omega
  have m40 : ((40, k) : Nat × Nat) ∈ lkeys ν := lkeys_mem.mpr (Or.inr (Or.inr (Or.inl ⟨Or.inl rfl, hk⟩)))
  refine hW.perm ?_ hM
  have p1 : (lws cy ad (lset (lset la (100 + k) 0 a) 60 k ar) (lgrow ν k g)).Perm (lcell cy ad (lset (lset la (100 + k) 0 a) 60 k ar) (lgrow ν k g) (40, k) :: lcell cy ad (lset (lset la (100 + k) 0 a) 60 k ar) (lgrow ν k g) (60, k) :: (lrest1 cy ad la ν k ++ [(a, .inl (cy 0, 4, .inl g))])) := by
    have p2 : (lkeys (lgrow ν k g)).Perm ((40, k) :: (60, k) :: ((lkeys ν).erase (40, k) ++ [(100 + k, 0)])) := by
      refine (lgrow_keys0 hk hL h0).trans ?_
      refine ((List.perm_cons_erase m40).append_right _).trans ?_
      refine List.Perm.cons _ ?_
      show ((lkeys ν).erase (40, k) ++ ([(60, k)] ++ [(100 + k, 0)])).Perm _
      rw [← List.append_assoc]
      exact (List.perm_append_comm (l₁ := (lkeys ν).erase (40, k)) (l₂ := [(60, k)])).append_right _
    have p3 := p2.map (lcell cy ad (lset (lset la (100 + k) 0 a) 60 k ar) (lgrow ν k g))
    have e1 : ((lkeys ν).erase (40, k)).map (lcell cy ad (lset (lset la (100 + k) 0 a) 60 k ar) (lgrow ν k g)) = lrest1 cy ad la ν k := by
      refine List.map_congr_left (fun q hq => ?_)
      have q2 := (List.Nodup.mem_erase_iff hnd).mp hq
      have q3 : q ≠ (60, k) := by
        rintro rfl
        rcases lkeys_mem.mp q2.2 with ⟨z, -⟩ | ⟨z, -⟩ | ⟨z, -⟩ | ⟨z, -⟩ | ⟨z, -⟩
        · exact absurd z (by show ¬ 60 < 9; omega)
        · exact absurd z (by show ¬ 60 = 20; omega)
        · rcases z with z | ⟨-, z⟩
          · exact absurd z (by show ¬ 60 = 40; omega)
          · exact z h0
        · exact absurd z (by show ¬ 100 ≤ 60; omega)
        · cases z
      rw [lcell_60 q2.1 q3]
      have e9 := lgrow_cell (cy := cy) (ad := ad) (la := la) (a := a) (g := g) hs hk h8 q2.2 q2.1 q3
      rwa [h0] at e9
    have e2 : lcell cy ad (lset (lset la (100 + k) 0 a) 60 k ar) (lgrow ν k g) (100 + k, 0) = (a, .inl (cy 0, 4, .inl g)) := by
      rw [lcell_60 (by intro q; have := congrArg Prod.fst q; have : 100 + k = 40 := this; omega) (by intro q; have := congrArg Prod.fst q; have : 100 + k = 60 := this; omega)]
      unfold lcell
      rw [lE_100]
      have e8 := lgrow_g (ν := ν) (k := k) (g := g)
      rw [h0] at e8
      rw [e8]
      show (lset la (100 + k) 0 a (100 + k) 0, _) = _
      rw [lset_eq]
    rw [List.map_cons, List.map_cons, List.map_append, e1, List.map_cons, e2] at p3
    exact p3
  have e40 : lcell cy ad (lset (lset la (100 + k) 0 a) 60 k ar) (lgrow ν k g) (40, k) = (la 40 k, .inr (13, [.int (gi ν (40 + k) 0 + 1), .ref ar, .int (nI 1)])) := by
    show (lset (lset la (100 + k) 0 a) 60 k ar 40 k, Sum.inr (13, [Value.int ((lgrow ν k g).1 (40 + k) 0), .ref (if lSz (lgrow ν k g) k = 0 then ad 461 else lset (lset la (100 + k) 0 a) 60 k ar 60 k), .int (nI (lSz (lgrow ν k g) k))])) = _
    rw [lgrow_szk h8, if_neg (by omega), lset_eq, lset_ne (show 40 ≠ 60 by omega), lset_ne (by omega), lgrow_40, h0]
    rfl
  have e60 : lcell cy ad (lset (lset la (100 + k) 0 a) 60 k ar) (lgrow ν k g) (60, k) = (ar, .inl (cy 4, 10, .inr (.inr (.inr (.inr (va_up (fun _ => none) 0 (some a))))))) := by
    show (lset (lset la (100 + k) 0 a) 60 k ar 60 k, Sum.inl (cy 4, 10, Sum.inr (Sum.inr (Sum.inr (Sum.inr (lRf (lSz (lgrow ν k g) k) (lset (lset la (100 + k) 0 a) 60 k ar (100 + k)))))))) = _
    rw [lgrow_szk h8, lset_eq, lset_ne (show 100 + k ≠ 60 by omega), h0]
    have e : lRf (0 + 1) (lset la (100 + k) 0 a (100 + k)) = va_up (fun _ => none) 0 (some a) := by
      funext j
      show (if j < 0 + 1 then some (lset la (100 + k) 0 a (100 + k) j) else none) = (if j = 0 then some a else none)
      by_cases c : j = 0
      · rw [if_pos c, if_pos (by omega), c, lset_eq]
      · rw [if_neg c, if_neg (by omega)]
    rw [e]
  rw [e40, e60] at p1
  refine List.Perm.trans ?_ (l_rot (B := T) p1).symm
  refine List.Perm.append_right _ ?_
  rw [List.append_assoc]
  rfl
end LADD0

def lν0 (p L c0 c1 t0 : Int32) : gM := (fun k => if k = 0 then (fun i => if i = 1 then p else if i = 2 then L else 0) else if k = 1 then upd (upd (fun _ => 0) 0 c0) 1 c1 else if k = 8 then upd (upd (upd (upd (fun _ => 0) 0 40) 1 60) 2 20) 0 t0 else (fun _ => 0), fun _ _ => 0)
def lla0 (o0 a1 a2 a6 a8 e v z : Nat) (r : Nat → Nat) : Nat → Nat → Nat := fun k i => if k = 0 then o0 else if k = 1 then a1 else if k = 2 then a2 else if k = 3 then e else if k = 4 then v else if k = 5 then z else if k = 6 then a6 else if k = 8 then a8 else r i
def hends (cy : Nat → ClassId) (q : Nat) (r : Nat → Nat) (n : Nat) : va_W := (q, .inl (cy 5, n, .inr (.inr (.inr (.inr (lRf n r)))))) :: (List.range n).map (fun i => (r i, .inl (cy 0, 2, .inl (fun _ => 0))))
theorem lν0_S {p L c0 c1 t0 : Int32} (hp : gIn p 9) (hL : gIn L 12) : lS (lν0 p L c0 c1 t0) := by
  refine ⟨⟨?_, ?_⟩, ⟨?_, ?_⟩, ⟨?_, ?_, ?_, ?_⟩, ?_⟩
  · have := hL.2; show L.toNatClampNeg ≤ 11; omega
  · exact gIn_e hL
  · have := hp.2; show p.toNatClampNeg ≤ 8; omega
  · exact gIn_e hp
  · exact Nat.zero_le _
  · exact Nat.zero_le _
  · exact (by decide : (0 : Int32).toNatClampNeg < 100)
  · exact rfl
  · intro k hk
    exact absurd hk (Nat.not_lt_zero k)
theorem lws_start {D : va_G} {cy : Nat → ClassId} {ad : Nat → Nat} {b : Nat} {μ : gM} {H : Heap} {o0 a1 a2 a6 a8 e v z : Nat} {r : Nat → Nat} {p L c0 c1 t0 : Int32}
    (hM : hW D cy ad b μ [] ([(o0, .inr (8, [.ref (ad 0), .int p, .int L, .ref a1, .ref a2, .ref e, .ref v, .ref z, .ref a6, .ref a8, .null, .int (0 : Int32)])), (a1, .inl (cy 0, 2, .inl (upd (upd (fun _ => 0) 0 c0) 1 c1))), (a2, .inl (cy 0, 16, .inl (fun _ => 0))), (a6, .inr (13, [.int (0 : Int32), .ref (ad 461), .int (0 : Int32)])), (a8, .inl (cy 0, 3, .inl (upd (upd (upd (upd (fun _ => 0) 0 (40 : Int32)) 1 (60 : Int32)) 2 (20 : Int32)) 0 t0)))] ++ hends cy e r (L.toNatClampNeg) ++ [(v, .inl (cy 0, (L.toNatClampNeg), .inl (fun _ => 0)))] ++ [(z, .inl (cy 3, (L.toNatClampNeg), .inl (fun _ => 0)))]) H) : hW D cy ad b μ (lws cy ad (lla0 o0 a1 a2 a6 a8 e v z r) (lν0 p L c0 c1 t0)) [] H := by
  refine hW.perm ?_ hM
  have e1 : lkeys (lν0 p L c0 c1 t0) = lk1 ++ (List.range (L.toNatClampNeg)).map (fun k => (20, k)) := by
    show lk1 ++ (([] ++ (List.range (L.toNatClampNeg)).map (fun k => (20, k))) ++ ((List.range 0).flatMap (lk2 (lν0 p L c0 c1 t0)) ++ [])) = _
    rw [List.nil_append, List.range_zero, List.flatMap_nil, List.append_nil, List.append_nil]
  have e2 : lws cy ad (lla0 o0 a1 a2 a6 a8 e v z r) (lν0 p L c0 c1 t0) = ([(o0, .inr (8, [.ref (ad 0), .int p, .int L, .ref a1, .ref a2, .ref e, .ref v, .ref z, .ref a6, .ref a8, .null, .int (0 : Int32)])), (a1, .inl (cy 0, 2, .inl (upd (upd (fun _ => 0) 0 c0) 1 c1))), (a2, .inl (cy 0, 16, .inl (fun _ => 0))), (e, .inl (cy 5, L.toNatClampNeg, .inr (.inr (.inr (.inr (lRf L.toNatClampNeg r)))))), (v, .inl (cy 0, (L.toNatClampNeg), .inl (fun _ => 0))), (z, .inl (cy 3, (L.toNatClampNeg), .inl (fun _ => 0))), (a6, .inr (13, [.int (0 : Int32), .ref (ad 461), .int (0 : Int32)])), (a8, .inl (cy 0, 3, .inl (upd (upd (upd (upd (fun _ => 0) 0 (40 : Int32)) 1 (60 : Int32)) 2 (20 : Int32)) 0 t0)))] : va_W) ++ (List.range (L.toNatClampNeg)).map (fun i => (r i, .inl (cy 0, 2, .inl (fun _ => 0)))) := by
    unfold lws
    rw [e1, List.map_append, List.map_map]
    have e3 : (List.range L.toNatClampNeg).map (lcell cy ad (lla0 o0 a1 a2 a6 a8 e v z r) (lν0 p L c0 c1 t0) ∘ fun k => (20, k)) = (List.range L.toNatClampNeg).map (fun i => (r i, .inl (cy 0, 2, .inl (fun _ => 0)))) := by
      refine List.map_congr_left (fun k _ => ?_)
      have e5 : (lν0 p L c0 c1 t0).1 (20 + k) = fun _ => 0 := by
        show (if 20 + k = 0 then _ else if 20 + k = 1 then _ else if 20 + k = 8 then _ else _) = _
        rw [if_neg (by omega), if_neg (by omega), if_neg (by omega)]
      show (r k, .inl (cy 0, 2, .inl ((lν0 p L c0 c1 t0).1 (20 + k)))) = ((r k, .inl (cy 0, 2, .inl (fun _ => 0))) : Nat × va_E)
      rw [e5]
    rw [e3]
    rfl
  rw [e2, List.nil_append, List.append_nil]
  unfold hends
  simp only [List.append_assoc, List.cons_append, List.nil_append]
  refine .cons _ (.cons _ (.cons _ ?_))
  refine (List.perm_middle (l₁ := ([(a6, .inr (13, [.int (0 : Int32), .ref (ad 461), .int (0 : Int32)])), (a8, .inl (cy 0, 3, .inl (upd (upd (upd (upd (fun _ => 0) 0 (40 : Int32)) 1 (60 : Int32)) 2 (20 : Int32)) 0 t0)))] : va_W)) (a := ((e, .inl (cy 5, L.toNatClampNeg, .inr (.inr (.inr (.inr (lRf L.toNatClampNeg r)))))) : Nat × va_E))).trans (.cons _ ?_)
  exact List.perm_append_comm (l₁ := ((a6, .inr (13, [.int (0 : Int32), .ref (ad 461), .int (0 : Int32)])) :: (a8, .inl (cy 0, 3, .inl (upd (upd (upd (upd (fun _ => 0) 0 (40 : Int32)) 1 (60 : Int32)) 2 (20 : Int32)) 0 t0))) :: _ : va_W)) (l₂ := [_, _])
theorem h_newZn {p : Program} {l : Launch} {e : Env} {R : Room} {s : State} {m : MethodId} {args : Array Value} {below : List Frame} {meth : Method} {c : Code} {H : Heap} {locs : List Loc} {cells slots : Nat} {Q : State → Prop} {cc : ByteArray} {pc : Nat} {ls : Array Slot} {rest : List Value} {D : va_G} {cy : Nat → ClassId} {ad : Nat → Nat} {b : Nat} {μ : gM} {P T : va_W} (hx : p.tables.exec = Jvm.exec) (hb : c.code = cc) (E : hE l D cy ad b s) (hM : hW D cy ad b μ P T H) (hS : va_S (hA b) s.heap H locs) (n : Nat) {v : Int32} (hv : v = nI n) (hn : n ≤ 16) (hc : cells + 1 ≤ R.cells) (hs : slots + 16 ≤ R.slots) (hdg : decode cc pc = .ok (.newarray .boolean, 2))
    (kk : ∀ (q : Nat) (H1 : Heap), hW D cy ad b μ P (T ++ [(q, .inl (cy 3, n, .inl (fun _ => 0)))]) H1 → va_S (hA b) s.heap H1 locs → W p l e R s m args below meth c H1 locs (cells + 1) (slots + 16) Q (F0 m (pc + 2) ls (.ref q :: rest))) : W p l e R s m args below meth c H locs cells slots Q (F0 m pc ls (.int v :: rest)) := by
  subst hv
  refine va_newa (atype := .boolean) (ty := .boolean) (a0 := (n, .inl (fun _ => 0))) (N' := n) hx hb (show (Cond.arrayClass (newarray.typeOf .boolean)).before args s = true from E.kw kw_376) rfl E.1.1 hM.1 hM.2 hS (fun q h => Nat.le_trans E.2.2.1 h) (fun cA => rfl) (nI_pos (by omega)) (nI_clamp (by omega)) (by show n * 1 ≤ _; omega) hc (by omega) hdg (fun q cA H1 hK1 hP1 hD1 hS1 => ?_)
  have e1 : s.vm.findClass ("[" ++ FieldType.boolean.toString) = some cA := (hK1.2 6 (cA, .boolean) rfl).2
  have e2 : s.vm.findClass ("[" ++ FieldType.boolean.toString) = some (cy 3) := (E.1.1.2 3 (cy 3, .boolean) rfl).2
  obtain rfl : cA = cy 3 := Option.some.inj (e1.symm.trans e2)
  refine W.widen (Nat.le_refl _) (by omega) (kk q H1 ?_ hS1)
  have e3 := ht_push (cy := cy) (ad := ad) (μ := μ) (P := P) (T := T) (x := (q, .inl (cy 3, (n, .inl (fun _ => 0)))))
  rw [e3] at hP1 hD1
  exact ⟨hP1, hD1⟩
theorem l_mnaE {p : Program} {l : Launch} {e : Env} {R : Room} {s : State} {m : MethodId} {args : Array Value} {below : List Frame} {meth : Method} {c : Code} {H : Heap} {locs : List Loc} {cells slots : Nat} {Q : State → Prop} {cc : ByteArray} {pc : Nat} {ls : Array Slot} {rest : List Value} {D : va_G} {cy : Nat → ClassId} {ad : Nat → Nat} {b : Nat} {μ : gM} {P T : va_W} {own : String} (hx : p.tables.exec = Jvm.exec) (hb : c.code = cc) (hown : s.vm.findClass own = some m.cls) (E : hE l D cy ad b s) (hM : hW D cy ad b μ P T H) (hS : va_S (hA b) s.heap H locs) {idx n : Nat} (hn : n ≤ 11) (hcl : gw (.classLink own idx "[[I")) (hover : va_AOA .int s) (hc : cells + 12 ≤ R.cells) (hs : slots + 33 ≤ R.slots) (hdg : decode cc pc = .ok (.multianewarray idx 2, 4))
    (kk : ∀ (q : Nat) (r : Nat → Nat) (H1 : Heap), hW D cy ad b μ P (T ++ hends cy q r n) H1 → va_S (hA b) s.heap H1 locs → W p l e R s m args below meth c H1 locs (cells + 12) (slots + 33) Q (F0 m (pc + 4) ls (.ref q :: rest))) : W p l e R s m args below meth c H locs cells slots Q (F0 m pc ls (.int (2 : Int32) :: .int (nI n) :: rest)) := by
  have e0 : hws cy ad μ P T = hws cy ad μ P T ++ va_pl [] (fun _ => .inr (0, [])) := (List.append_nil _).symm
  obtain ⟨hP, hD⟩ := hM
  have hP : va_P D vwCl (hws cy ad μ P T ++ va_pl [] (fun _ => .inr (0, []))) H := e0 ▸ hP
  have hD : va_D (hA b) (hws cy ad μ P T ++ va_pl [] (fun _ => .inr (0, []))) := e0 ▸ hD
  refine va_mna (X := hws cy ad μ P T) (L := []) (f := fun _ => .inr (0, [])) (ty := .int) (cy := cy 0) (N' := n) (K' := 2) (z := (2, .inl (fun _ => 0))) hx hb hown (E.kw hcl) hover (E.kw kw_230) ((E.1.1.2 0 (cy 0, .int) rfl).2) E.1.1 hP hD hS (fun q h => Nat.le_trans E.2.2.1 h) (nI_pos (by omega)) (by decide) (nI_clamp (by omega)) (by decide) (by omega) (by decide) (by decide) rfl rfl (by omega) (by omega) (fun c9 => by show ({ cls := c9, slots := Array.replicate 2 (.int 0), vm := .none } : Cell) = _; rw [arrV_new]; rfl) hdg (fun q r cA H1 hinj hnew hK1 hP1 hD1 hS1 => ?_)
  have e1 : s.vm.findClass ("[" ++ (FieldType.array .int).toString) = some cA := (hK1.2 6 (cA, .array .int) rfl).2
  have e2 : s.vm.findClass ("[" ++ (FieldType.array .int).toString) = some (cy 5) := (E.1.1.2 5 (cy 5, .array .int) rfl).2
  obtain rfl : cA = cy 5 := Option.some.inj (e1.symm.trans e2)
  refine W.widen (by omega) (by omega) (kk q r H1 ?_ hS1)
  have e3 : (hws cy ad μ P T ++ [(q, .inl (cy 5, n, .inr (.inr (.inr (.inr (lRf n r))))))]) ++ va_pl ([] ++ (List.range n).map r) (vr_up (fun _ => .inr (0, [])) ((List.range n).map r) (.inl (cy 0, (2, .inl (fun _ => 0))))) = hws cy ad μ P (T ++ hends cy q r n) := by
    unfold hws hends va_pl
    rw [List.nil_append, List.map_map, List.append_assoc, List.append_assoc, List.append_assoc]
    congr 3
    show ([(q, .inl (cy 5, n, .inr (.inr (.inr (.inr (lRf n r))))))] : va_W) ++ _ = _
    rw [List.singleton_append]
    congr 1
    apply List.map_congr_left
    intro i hi
    show (r i, vr_up _ _ _ (r i)) = _
    rw [vr_up_in (List.mem_map.mpr ⟨i, hi, rfl⟩)]
  rw [show (fun i => if i < n then some (r i) else none) = lRf n r from rfl] at hP1 hD1
  rw [e3] at hP1 hD1
  exact ⟨hP1, hD1⟩
theorem hW_raw {D : va_G} {cy : Nat → ClassId} {ad : Nat → Nat} {b : Nat} {μ : gM} {T : va_W} {H : Heap} (hP : va_P D vwCl (T ++ gws gFull cy ad μ) H) (hD : va_D (hA b) (T ++ gws gFull cy ad μ)) : hW D cy ad b μ [] T H := by
  have hp : (T ++ gws gFull cy ad μ).Perm (gws gFull cy ad μ ++ ([] ++ T)) := by rw [List.nil_append]; exact List.perm_append_comm
  refine ⟨va_P_perm (fun x hx => hp.mem_iff.mpr hx) hP, ?_⟩
  have h3 := va_D_nd.mp hD
  exact va_D_nd.mpr ⟨((hp.map Prod.fst).nodup_iff).mp h3.1, fun q hq1 => h3.2 q (hp.mem_iff.mpr hq1)⟩
def f_L_init (xs : Nat → Int32) : Option (gM × gM) :=
  Option.bind (f_L_mod (xs 0) (7 : Int32) gμ0) (fun q1 => Option.bind (f_L_mod ((xs 0) >>> ((4 : Int32) &&& 31)) (11 : Int32) gμ0) (fun q2 => gchk (gIn ((2 : Int32) + q1) 9 ∧ gIn ((1 : Int32) + q2) 12) (Option.bind (f_L_mod ((xs 0) >>> ((9 : Int32) &&& 31)) (200 : Int32) gμ0) (fun q3 => Option.bind (f_L_mod (xs 1) (401 : Int32) gμ0) (fun q4 => Option.bind (f_L_mod ((xs 1) >>> ((9 : Int32) &&& 31)) (41 : Int32) gμ0) (fun q5 => j_Ln_193 xs (lν0 ((2 : Int32) + q1) ((1 : Int32) + q2) (q4 - (200 : Int32)) (q5 - (20 : Int32)) q3) gμ0))))))
set_option maxHeartbeats 20000000 in
set_option maxRecDepth 100000 in
theorem w_Ln_12 {p : Program} {l : Launch} {e : Env} {s : State} {m : MethodId} {args : Array Value} {below : List Frame} {meth : Method} {c : Code} {D : va_G} {cy : Nat → ClassId} {ad : Nat → Nat} {b o0 : Nat} {RES : gM × gM} {Z : Option Value → Heap → Prop} {cells slots : Nat} (h : f_L_init (scr ad) = some RES) (F : gF p s m meth c cX8_init RX8 4 none) (E : hE l D cy ad b s) (hin : meth.name = "<init>") (kz : ∀ (f : Nat → Nat) (la : Nat → Nat → Nat) (H : Heap), (∀ k, 60 ≤ k → f k = ad k) → la 0 0 = o0 → lS RES.1 → hW D cy f b RES.2 (lws cy f la RES.1) [] H → Z none H) (hc : cells + 1694 ≤ 1876) (hsl : slots + 2281356 ≤ 2285440) {H : Heap} {locs : List Loc} {ls : Array Slot} (hM : hW D cy ad b gμ0 [] [(o0, .inr (8, [.null, .int (0 : Int32), .int (0 : Int32), .null, .null, .null, .null, .null, .null, .null, .null, .int (0 : Int32)]))] H) (hS : va_S (hA b) s.heap H locs) (hl : lv_has ls 4 [(0, .ref o0), (1, .ref (ad 465))]) : W p l e ({ frames := 8, cells := 1876, slots := 2285440, locals := 202 } : Room) s m args below meth c H locs cells slots (MQ below (hQ b Z) args s 1876 2285440 (hA b)) (F0 m 12 ls [.ref (ad 0), .ref o0]) := by
  obtain ⟨hx, hb, hml, hown, hlocks, hr⟩ := id F
  unfold f_L_init at h
  refine h_putF (j := 0) hx hb hown E hM hS hin rfl gC_X8 0 (by decide) rfl rfl (tyX8_ok 0 (by decide)) rfl rfl kw_1023 (Nat.le_of_ble_eq_true rfl) dX8_init_12 (fun H locs hM hS => ?_)
  replace hM : hW D cy ad b gμ0 [] [(o0, .inr (8, [.ref (ad 0), .int (0 : Int32), .int (0 : Int32), .null, .null, .null, .null, .null, .null, .null, .null, .int (0 : Int32)]))] H := hM
  refine lv_aload_n hx hb dX8_init_15 rfl (lv_at hl 0 rfl) ?_
  refine lv_iconst (v := (2 : Int32)) hx hb dX8_init_16 (by decide) ?_
  refine h_newIn hx hb E hM hS 2 rfl (by decide) (show _ ≤ 1876 by omega) (show _ ≤ 2285440 by first | (simp only [Nat.add_assoc, Nat.reduceAdd]; exact le_big hsl rfl) | exact le_big hsl rfl) dX8_init_17 (fun a1 H hM hS => ?_)
  replace hM : hW D cy ad b gμ0 [] [(o0, .inr (8, [.ref (ad 0), .int (0 : Int32), .int (0 : Int32), .null, .null, .null, .null, .null, .null, .null, .null, .int (0 : Int32)])), (a1, .inl (cy 0, 2, .inl (fun _ => 0)))] H := hM
  refine h_putF (j := 0) hx hb hown E hM hS hin rfl gC_X8 3 (by decide) rfl rfl (tyX8_ok 3 (by decide)) rfl rfl kw_1027 (Nat.le_of_ble_eq_true rfl) dX8_init_19 (fun H locs hM hS => ?_)
  replace hM : hW D cy ad b gμ0 [] [(o0, .inr (8, [.ref (ad 0), .int (0 : Int32), .int (0 : Int32), .ref a1, .null, .null, .null, .null, .null, .null, .null, .int (0 : Int32)])), (a1, .inl (cy 0, 2, .inl (fun _ => 0)))] H := hM
  refine lv_aload_n hx hb dX8_init_22 rfl (lv_at hl 0 rfl) ?_
  refine lv_bipush (v := (16 : Int32)) hx hb dX8_init_23 (by decide) ?_
  refine h_newIn hx hb E hM hS 16 rfl (by decide) (show _ ≤ 1876 by omega) (show _ ≤ 2285440 by first | (simp only [Nat.add_assoc, Nat.reduceAdd]; exact le_big hsl rfl) | exact le_big hsl rfl) dX8_init_25 (fun a2 H hM hS => ?_)
  replace hM : hW D cy ad b gμ0 [] [(o0, .inr (8, [.ref (ad 0), .int (0 : Int32), .int (0 : Int32), .ref a1, .null, .null, .null, .null, .null, .null, .null, .int (0 : Int32)])), (a1, .inl (cy 0, 2, .inl (fun _ => 0))), (a2, .inl (cy 0, 16, .inl (fun _ => 0)))] H := hM
  refine h_putF (j := 0) hx hb hown E hM hS hin rfl gC_X8 4 (by decide) rfl rfl (tyX8_ok 4 (by decide)) rfl rfl kw_1028 (Nat.le_of_ble_eq_true rfl) dX8_init_27 (fun H locs hM hS => ?_)
  replace hM : hW D cy ad b gμ0 [] [(o0, .inr (8, [.ref (ad 0), .int (0 : Int32), .int (0 : Int32), .ref a1, .ref a2, .null, .null, .null, .null, .null, .null, .int (0 : Int32)])), (a1, .inl (cy 0, 2, .inl (fun _ => 0))), (a2, .inl (cy 0, 16, .inl (fun _ => 0)))] H := hM
  refine lv_aload_n hx hb dX8_init_30 rfl (lv_at hl 0 rfl) ?_
  refine h_new hx hb hown E hM hS gC_Jx4a65c kw_511 kw_512 kw_61 (fs := [.int (0 : Int32), .null, .int (0 : Int32)]) (by decide +kernel) (show _ ≤ 1876 by omega) (show _ ≤ 2285440 by first | (simp only [Nat.add_assoc, Nat.reduceAdd]; exact le_big hsl rfl) | exact le_big hsl rfl) dX8_init_31 (fun a6 H hM hS => ?_)
  replace hM : hW D cy ad b gμ0 [] [(o0, .inr (8, [.ref (ad 0), .int (0 : Int32), .int (0 : Int32), .ref a1, .ref a2, .null, .null, .null, .null, .null, .null, .int (0 : Int32)])), (a1, .inl (cy 0, 2, .inl (fun _ => 0))), (a2, .inl (cy 0, 16, .inl (fun _ => 0))), (a6, .inr (13, [.int (0 : Int32), .null, .int (0 : Int32)]))] H := hM
  refine lv_dup hx hb dX8_init_34 rfl ?_
  replace hM := hW.right (X := [(o0, .inr (8, [.ref (ad 0), .int (0 : Int32), .int (0 : Int32), .ref a1, .ref a2, .null, .null, .null, .null, .null, .null, .int (0 : Int32)])), (a1, .inl (cy 0, 2, .inl (fun _ => 0))), (a2, .inl (cy 0, 16, .inl (fun _ => 0)))]) (T := [(a6, .inr (13, [.int (0 : Int32), .null, .int (0 : Int32)]))]) hM
  refine h_callI (As := []) (rest := [.ref a6, .ref o0]) hx hb (hml.trans hl.1.symm) hown E hM hS xi_Jx4a65c_init_da8c8 kw_513 c_alin rfl rfl (Nat.le_of_ble_eq_true rfl) ⟨(Nat.le_of_ble_eq_true rfl), (Nat.le_of_ble_eq_true rfl)⟩ ⟨(show _ ≤ 1876 by omega), (show _ ≤ 2285440 by first | (simp only [Nat.add_assoc, Nat.reduceAdd]; exact le_big hsl rfl) | exact le_big hsl rfl)⟩ dX8_init_35 (fun rv H locs hZ hS => ?_)
  obtain ⟨rfl, hM⟩ := hZ
  replace hM := hW.left (X := [(o0, .inr (8, [.ref (ad 0), .int (0 : Int32), .int (0 : Int32), .ref a1, .ref a2, .null, .null, .null, .null, .null, .null, .int (0 : Int32)])), (a1, .inl (cy 0, 2, .inl (fun _ => 0))), (a2, .inl (cy 0, 16, .inl (fun _ => 0)))]) (T := [(a6, .inr (13, [.int (0 : Int32), .ref (ad 461), .int (0 : Int32)]))]) hM
  replace hM : hW D cy ad b gμ0 [] [(o0, .inr (8, [.ref (ad 0), .int (0 : Int32), .int (0 : Int32), .ref a1, .ref a2, .null, .null, .null, .null, .null, .null, .int (0 : Int32)])), (a1, .inl (cy 0, 2, .inl (fun _ => 0))), (a2, .inl (cy 0, 16, .inl (fun _ => 0))), (a6, .inr (13, [.int (0 : Int32), .ref (ad 461), .int (0 : Int32)]))] H := hM
  refine h_putF (j := 0) hx hb hown E hM hS hin rfl gC_X8 8 (by decide) rfl rfl (tyX8_ok 8 (by decide)) rfl rfl kw_1032 (Nat.le_of_ble_eq_true rfl) dX8_init_38 (fun H locs hM hS => ?_)
  replace hM : hW D cy ad b gμ0 [] [(o0, .inr (8, [.ref (ad 0), .int (0 : Int32), .int (0 : Int32), .ref a1, .ref a2, .null, .null, .null, .ref a6, .null, .null, .int (0 : Int32)])), (a1, .inl (cy 0, 2, .inl (fun _ => 0))), (a2, .inl (cy 0, 16, .inl (fun _ => 0))), (a6, .inr (13, [.int (0 : Int32), .ref (ad 461), .int (0 : Int32)]))] H := hM
  refine lv_aload_n hx hb dX8_init_41 rfl (lv_at hl 0 rfl) ?_
  refine lv_iconst (v := (3 : Int32)) hx hb dX8_init_42 (by decide) ?_
  refine h_newIn hx hb E hM hS 3 rfl (by decide) (show _ ≤ 1876 by omega) (show _ ≤ 2285440 by first | (simp only [Nat.add_assoc, Nat.reduceAdd]; exact le_big hsl rfl) | exact le_big hsl rfl) dX8_init_43 (fun a8 H hM hS => ?_)
  replace hM : hW D cy ad b gμ0 [] [(o0, .inr (8, [.ref (ad 0), .int (0 : Int32), .int (0 : Int32), .ref a1, .ref a2, .null, .null, .null, .ref a6, .null, .null, .int (0 : Int32)])), (a1, .inl (cy 0, 2, .inl (fun _ => 0))), (a2, .inl (cy 0, 16, .inl (fun _ => 0))), (a6, .inr (13, [.int (0 : Int32), .ref (ad 461), .int (0 : Int32)])), (a8, .inl (cy 0, 3, .inl (fun _ => 0)))] H := hM
  refine lv_dup hx hb dX8_init_45 rfl ?_
  refine lv_iconst (v := (0 : Int32)) hx hb dX8_init_46 (by decide) ?_
  refine lv_bipush (v := (40 : Int32)) hx hb dX8_init_47 (by decide) ?_
  refine h_iast (j := 4) hx hb E hM hS rfl (⟨by decide, by decide⟩ : gIn (0 : Int32) 3) dX8_init_49 (fun H locs hM hS => ?_)
  replace hM : hW D cy ad b gμ0 [] [(o0, .inr (8, [.ref (ad 0), .int (0 : Int32), .int (0 : Int32), .ref a1, .ref a2, .null, .null, .null, .ref a6, .null, .null, .int (0 : Int32)])), (a1, .inl (cy 0, 2, .inl (fun _ => 0))), (a2, .inl (cy 0, 16, .inl (fun _ => 0))), (a6, .inr (13, [.int (0 : Int32), .ref (ad 461), .int (0 : Int32)])), (a8, .inl (cy 0, 3, .inl (upd (fun _ => 0) 0 (40 : Int32))))] H := hM
  refine lv_dup hx hb dX8_init_50 rfl ?_
  refine lv_iconst (v := (1 : Int32)) hx hb dX8_init_51 (by decide) ?_
  refine lv_bipush (v := (60 : Int32)) hx hb dX8_init_52 (by decide) ?_
  refine h_iast (j := 4) hx hb E hM hS rfl (⟨by decide, by decide⟩ : gIn (1 : Int32) 3) dX8_init_54 (fun H locs hM hS => ?_)
  replace hM : hW D cy ad b gμ0 [] [(o0, .inr (8, [.ref (ad 0), .int (0 : Int32), .int (0 : Int32), .ref a1, .ref a2, .null, .null, .null, .ref a6, .null, .null, .int (0 : Int32)])), (a1, .inl (cy 0, 2, .inl (fun _ => 0))), (a2, .inl (cy 0, 16, .inl (fun _ => 0))), (a6, .inr (13, [.int (0 : Int32), .ref (ad 461), .int (0 : Int32)])), (a8, .inl (cy 0, 3, .inl (upd (upd (fun _ => 0) 0 (40 : Int32)) 1 (60 : Int32))))] H := hM
  refine lv_dup hx hb dX8_init_55 rfl ?_
  refine lv_iconst (v := (2 : Int32)) hx hb dX8_init_56 (by decide) ?_
  refine lv_bipush (v := (20 : Int32)) hx hb dX8_init_57 (by decide) ?_
  refine h_iast (j := 4) hx hb E hM hS rfl (⟨by decide, by decide⟩ : gIn (2 : Int32) 3) dX8_init_59 (fun H locs hM hS => ?_)
  replace hM : hW D cy ad b gμ0 [] [(o0, .inr (8, [.ref (ad 0), .int (0 : Int32), .int (0 : Int32), .ref a1, .ref a2, .null, .null, .null, .ref a6, .null, .null, .int (0 : Int32)])), (a1, .inl (cy 0, 2, .inl (fun _ => 0))), (a2, .inl (cy 0, 16, .inl (fun _ => 0))), (a6, .inr (13, [.int (0 : Int32), .ref (ad 461), .int (0 : Int32)])), (a8, .inl (cy 0, 3, .inl (upd (upd (upd (fun _ => 0) 0 (40 : Int32)) 1 (60 : Int32)) 2 (20 : Int32))))] H := hM
  refine h_putF (j := 0) hx hb hown E hM hS hin rfl gC_X8 9 (by decide) rfl rfl (tyX8_ok 9 (by decide)) rfl rfl kw_1033 (Nat.le_of_ble_eq_true rfl) dX8_init_60 (fun H locs hM hS => ?_)
  replace hM : hW D cy ad b gμ0 [] [(o0, .inr (8, [.ref (ad 0), .int (0 : Int32), .int (0 : Int32), .ref a1, .ref a2, .null, .null, .null, .ref a6, .ref a8, .null, .int (0 : Int32)])), (a1, .inl (cy 0, 2, .inl (fun _ => 0))), (a2, .inl (cy 0, 16, .inl (fun _ => 0))), (a6, .inr (13, [.int (0 : Int32), .ref (ad 461), .int (0 : Int32)])), (a8, .inl (cy 0, 3, .inl (upd (upd (upd (fun _ => 0) 0 (40 : Int32)) 1 (60 : Int32)) 2 (20 : Int32))))] H := hM
  refine lv_aload_n hx hb dX8_init_63 rfl (lv_at hl 0 rfl) ?_
  refine lv_iconst (v := (2 : Int32)) hx hb dX8_init_64 (by decide) ?_
  refine lv_aload_n hx hb dX8_init_65 rfl (lv_at hl 1 rfl) ?_
  refine lv_iconst (v := (0 : Int32)) hx hb dX8_init_66 (by decide) ?_
  replace hM := hW.low (T := [(o0, .inr (8, [.ref (ad 0), .int (0 : Int32), .int (0 : Int32), .ref a1, .ref a2, .null, .null, .null, .ref a6, .ref a8, .null, .int (0 : Int32)])), (a1, .inl (cy 0, 2, .inl (fun _ => 0))), (a2, .inl (cy 0, 16, .inl (fun _ => 0))), (a6, .inr (13, [.int (0 : Int32), .ref (ad 461), .int (0 : Int32)])), (a8, .inl (cy 0, 3, .inl (upd (upd (upd (fun _ => 0) 0 (40 : Int32)) 1 (60 : Int32)) 2 (20 : Int32))))]) hM
  refine h_callSN (As := [.ref (ad 465), .int (0 : Int32)]) (rest := [.int (2 : Int32), .ref o0]) hx hb (hml.trans hl.1.symm) hown E hM hS xs_L_cell (E.2.1.2.2.1 _ (List.mem_of_getElem? (i := 0) rfl)) (c_cell (k := 0) (by decide)) rfl rfl (Nat.le_of_ble_eq_true rfl) ⟨(Nat.le_of_ble_eq_true rfl), (Nat.le_of_ble_eq_true rfl)⟩ ⟨(show _ ≤ 1876 by omega), (show _ ≤ 2285440 by first | (simp only [Nat.add_assoc, Nat.reduceAdd]; exact le_big hsl rfl) | exact le_big hsl rfl)⟩ dX8_init_67 (fun rv H locs hZ hS => ?_)
  obtain ⟨rfl, hM⟩ := hZ
  replace hM := hW.up (T := [(o0, .inr (8, [.ref (ad 0), .int (0 : Int32), .int (0 : Int32), .ref a1, .ref a2, .null, .null, .null, .ref a6, .ref a8, .null, .int (0 : Int32)])), (a1, .inl (cy 0, 2, .inl (fun _ => 0))), (a2, .inl (cy 0, 16, .inl (fun _ => 0))), (a6, .inr (13, [.int (0 : Int32), .ref (ad 461), .int (0 : Int32)])), (a8, .inl (cy 0, 3, .inl (upd (upd (upd (fun _ => 0) 0 (40 : Int32)) 1 (60 : Int32)) 2 (20 : Int32))))]) hM
  replace hM : hW D cy ad b gμ0 [] [(o0, .inr (8, [.ref (ad 0), .int (0 : Int32), .int (0 : Int32), .ref a1, .ref a2, .null, .null, .null, .ref a6, .ref a8, .null, .int (0 : Int32)])), (a1, .inl (cy 0, 2, .inl (fun _ => 0))), (a2, .inl (cy 0, 16, .inl (fun _ => 0))), (a6, .inr (13, [.int (0 : Int32), .ref (ad 461), .int (0 : Int32)])), (a8, .inl (cy 0, 3, .inl (upd (upd (upd (fun _ => 0) 0 (40 : Int32)) 1 (60 : Int32)) 2 (20 : Int32))))] H := hM
  refine lv_bipush (v := (7 : Int32)) hx hb dX8_init_70 (by decide) ?_
  obtain ⟨q1, hq1, h⟩ := gbind_e h
  refine h_callSCN (As := [.int (scr ad 0), .int (7 : Int32)]) (rest := [.int (2 : Int32), .ref o0]) hx hb (hml.trans hl.1.symm) hown E hM hS hy_L_mod (E.2.1.2.2.1 _ (List.mem_of_getElem? (i := 1) rfl)) (c_L_mod hq1) rfl rfl (Nat.le_of_ble_eq_true rfl) ⟨(Nat.le_of_ble_eq_true rfl), (Nat.le_of_ble_eq_true rfl)⟩ ⟨(show _ ≤ 1876 by omega), (show _ ≤ 2285440 by first | (simp only [Nat.add_assoc, Nat.reduceAdd]; exact le_big hsl rfl) | exact le_big hsl rfl)⟩ dX8_init_72 (fun H locs hM hS => ?_)
  refine lv_iadd hx hb dX8_init_75 ?_
  refine h_putF (j := 0) hx hb hown E hM hS hin rfl gC_X8 1 (by decide) rfl rfl (tyX8_ok 1 (by decide)) rfl rfl kw_1025 (Nat.le_of_ble_eq_true rfl) dX8_init_76 (fun H locs hM hS => ?_)
  replace hM : hW D cy ad b gμ0 [] [(o0, .inr (8, [.ref (ad 0), .int ((2 : Int32) + q1), .int (0 : Int32), .ref a1, .ref a2, .null, .null, .null, .ref a6, .ref a8, .null, .int (0 : Int32)])), (a1, .inl (cy 0, 2, .inl (fun _ => 0))), (a2, .inl (cy 0, 16, .inl (fun _ => 0))), (a6, .inr (13, [.int (0 : Int32), .ref (ad 461), .int (0 : Int32)])), (a8, .inl (cy 0, 3, .inl (upd (upd (upd (fun _ => 0) 0 (40 : Int32)) 1 (60 : Int32)) 2 (20 : Int32))))] H := hM
  refine lv_aload_n hx hb dX8_init_79 rfl (lv_at hl 0 rfl) ?_
  refine lv_iconst (v := (1 : Int32)) hx hb dX8_init_80 (by decide) ?_
  refine lv_aload_n hx hb dX8_init_81 rfl (lv_at hl 1 rfl) ?_
  refine lv_iconst (v := (0 : Int32)) hx hb dX8_init_82 (by decide) ?_
  replace hM := hW.low (T := [(o0, .inr (8, [.ref (ad 0), .int ((2 : Int32) + q1), .int (0 : Int32), .ref a1, .ref a2, .null, .null, .null, .ref a6, .ref a8, .null, .int (0 : Int32)])), (a1, .inl (cy 0, 2, .inl (fun _ => 0))), (a2, .inl (cy 0, 16, .inl (fun _ => 0))), (a6, .inr (13, [.int (0 : Int32), .ref (ad 461), .int (0 : Int32)])), (a8, .inl (cy 0, 3, .inl (upd (upd (upd (fun _ => 0) 0 (40 : Int32)) 1 (60 : Int32)) 2 (20 : Int32))))]) hM
  refine h_callSN (As := [.ref (ad 465), .int (0 : Int32)]) (rest := [.int (1 : Int32), .ref o0]) hx hb (hml.trans hl.1.symm) hown E hM hS xs_L_cell (E.2.1.2.2.1 _ (List.mem_of_getElem? (i := 0) rfl)) (c_cell (k := 0) (by decide)) rfl rfl (Nat.le_of_ble_eq_true rfl) ⟨(Nat.le_of_ble_eq_true rfl), (Nat.le_of_ble_eq_true rfl)⟩ ⟨(show _ ≤ 1876 by omega), (show _ ≤ 2285440 by first | (simp only [Nat.add_assoc, Nat.reduceAdd]; exact le_big hsl rfl) | exact le_big hsl rfl)⟩ dX8_init_83 (fun rv H locs hZ hS => ?_)
  obtain ⟨rfl, hM⟩ := hZ
  replace hM := hW.up (T := [(o0, .inr (8, [.ref (ad 0), .int ((2 : Int32) + q1), .int (0 : Int32), .ref a1, .ref a2, .null, .null, .null, .ref a6, .ref a8, .null, .int (0 : Int32)])), (a1, .inl (cy 0, 2, .inl (fun _ => 0))), (a2, .inl (cy 0, 16, .inl (fun _ => 0))), (a6, .inr (13, [.int (0 : Int32), .ref (ad 461), .int (0 : Int32)])), (a8, .inl (cy 0, 3, .inl (upd (upd (upd (fun _ => 0) 0 (40 : Int32)) 1 (60 : Int32)) 2 (20 : Int32))))]) hM
  replace hM : hW D cy ad b gμ0 [] [(o0, .inr (8, [.ref (ad 0), .int ((2 : Int32) + q1), .int (0 : Int32), .ref a1, .ref a2, .null, .null, .null, .ref a6, .ref a8, .null, .int (0 : Int32)])), (a1, .inl (cy 0, 2, .inl (fun _ => 0))), (a2, .inl (cy 0, 16, .inl (fun _ => 0))), (a6, .inr (13, [.int (0 : Int32), .ref (ad 461), .int (0 : Int32)])), (a8, .inl (cy 0, 3, .inl (upd (upd (upd (fun _ => 0) 0 (40 : Int32)) 1 (60 : Int32)) 2 (20 : Int32))))] H := hM
  refine lv_iconst (v := (4 : Int32)) hx hb dX8_init_86 (by decide) ?_
  refine lv_ishr hx hb dX8_init_87 ?_
  refine lv_bipush (v := (11 : Int32)) hx hb dX8_init_88 (by decide) ?_
  obtain ⟨q2, hq2, h⟩ := gbind_e h
  refine h_callSCN (As := [.int ((scr ad 0) >>> ((4 : Int32) &&& 31)), .int (11 : Int32)]) (rest := [.int (1 : Int32), .ref o0]) hx hb (hml.trans hl.1.symm) hown E hM hS hy_L_mod (E.2.1.2.2.1 _ (List.mem_of_getElem? (i := 1) rfl)) (c_L_mod hq2) rfl rfl (Nat.le_of_ble_eq_true rfl) ⟨(Nat.le_of_ble_eq_true rfl), (Nat.le_of_ble_eq_true rfl)⟩ ⟨(show _ ≤ 1876 by omega), (show _ ≤ 2285440 by first | (simp only [Nat.add_assoc, Nat.reduceAdd]; exact le_big hsl rfl) | exact le_big hsl rfl)⟩ dX8_init_90 (fun H locs hM hS => ?_)
  refine lv_iadd hx hb dX8_init_93 ?_
  refine h_putF (j := 0) hx hb hown E hM hS hin rfl gC_X8 2 (by decide) rfl rfl (tyX8_ok 2 (by decide)) rfl rfl kw_1026 (Nat.le_of_ble_eq_true rfl) dX8_init_94 (fun H locs hM hS => ?_)
  replace hM : hW D cy ad b gμ0 [] [(o0, .inr (8, [.ref (ad 0), .int ((2 : Int32) + q1), .int ((1 : Int32) + q2), .ref a1, .ref a2, .null, .null, .null, .ref a6, .ref a8, .null, .int (0 : Int32)])), (a1, .inl (cy 0, 2, .inl (fun _ => 0))), (a2, .inl (cy 0, 16, .inl (fun _ => 0))), (a6, .inr (13, [.int (0 : Int32), .ref (ad 461), .int (0 : Int32)])), (a8, .inl (cy 0, 3, .inl (upd (upd (upd (fun _ => 0) 0 (40 : Int32)) 1 (60 : Int32)) 2 (20 : Int32))))] H := hM
  obtain ⟨cc, h⟩ := gchk_e h
  have hcn := cc.2.2
  refine lv_aload_n hx hb dX8_init_97 rfl (lv_at hl 0 rfl) ?_
  refine lv_aload_n hx hb dX8_init_98 rfl (lv_at hl 0 rfl) ?_
  refine h_get hx hb hown E hM (ht_m (List.mem_of_getElem? (i := 0) rfl)) gC_X8 2 (by decide) (v := .int ((1 : Int32) + q2)) rfl kw_1026 dX8_init_99 ?_
  refine lv_iconst (v := (2 : Int32)) hx hb dX8_init_102 (by decide) ?_
  rw [gIn_e cc.2]
  refine l_mnaE hx hb hown E hM hS (n := ((1 : Int32) + q2).toNatClampNeg) (by omega) kw_547 E.2.1.2.2.2.2.1 (show _ ≤ 1876 by omega) (show _ ≤ 2285440 by first | (simp only [Nat.add_assoc, Nat.reduceAdd]; exact le_big hsl rfl) | exact le_big hsl rfl) dX8_init_103 (fun e r H hM hS => ?_)
  replace hM : hW D cy ad b gμ0 [] ([(o0, .inr (8, [.ref (ad 0), .int ((2 : Int32) + q1), .int ((1 : Int32) + q2), .ref a1, .ref a2, .null, .null, .null, .ref a6, .ref a8, .null, .int (0 : Int32)])), (a1, .inl (cy 0, 2, .inl (fun _ => 0))), (a2, .inl (cy 0, 16, .inl (fun _ => 0))), (a6, .inr (13, [.int (0 : Int32), .ref (ad 461), .int (0 : Int32)])), (a8, .inl (cy 0, 3, .inl (upd (upd (upd (fun _ => 0) 0 (40 : Int32)) 1 (60 : Int32)) 2 (20 : Int32))))] ++ hends cy e r (((1 : Int32) + q2).toNatClampNeg)) H := hM
  refine h_putF (j := 0) hx hb hown E hM hS hin rfl gC_X8 5 (by decide) rfl rfl (tyX8_ok 5 (by decide)) rfl rfl kw_1029 (Nat.le_of_ble_eq_true rfl) dX8_init_107 (fun H locs hM hS => ?_)
  replace hM : hW D cy ad b gμ0 [] ([(o0, .inr (8, [.ref (ad 0), .int ((2 : Int32) + q1), .int ((1 : Int32) + q2), .ref a1, .ref a2, .ref e, .null, .null, .ref a6, .ref a8, .null, .int (0 : Int32)])), (a1, .inl (cy 0, 2, .inl (fun _ => 0))), (a2, .inl (cy 0, 16, .inl (fun _ => 0))), (a6, .inr (13, [.int (0 : Int32), .ref (ad 461), .int (0 : Int32)])), (a8, .inl (cy 0, 3, .inl (upd (upd (upd (fun _ => 0) 0 (40 : Int32)) 1 (60 : Int32)) 2 (20 : Int32))))] ++ hends cy e r (((1 : Int32) + q2).toNatClampNeg)) H := hM
  refine lv_aload_n hx hb dX8_init_110 rfl (lv_at hl 0 rfl) ?_
  refine lv_aload_n hx hb dX8_init_111 rfl (lv_at hl 0 rfl) ?_
  refine h_get hx hb hown E hM (ht_m (List.mem_of_getElem? (i := 0) rfl)) gC_X8 2 (by decide) (v := .int ((1 : Int32) + q2)) rfl kw_1026 dX8_init_112 ?_
  refine h_newIn hx hb E hM hS (((1 : Int32) + q2).toNatClampNeg) (gIn_e cc.2) (by omega) (show _ ≤ 1876 by omega) (show _ ≤ 2285440 by first | (simp only [Nat.add_assoc, Nat.reduceAdd]; exact le_big hsl rfl) | exact le_big hsl rfl) dX8_init_115 (fun v H hM hS => ?_)
  replace hM : hW D cy ad b gμ0 [] ([(o0, .inr (8, [.ref (ad 0), .int ((2 : Int32) + q1), .int ((1 : Int32) + q2), .ref a1, .ref a2, .ref e, .null, .null, .ref a6, .ref a8, .null, .int (0 : Int32)])), (a1, .inl (cy 0, 2, .inl (fun _ => 0))), (a2, .inl (cy 0, 16, .inl (fun _ => 0))), (a6, .inr (13, [.int (0 : Int32), .ref (ad 461), .int (0 : Int32)])), (a8, .inl (cy 0, 3, .inl (upd (upd (upd (fun _ => 0) 0 (40 : Int32)) 1 (60 : Int32)) 2 (20 : Int32))))] ++ hends cy e r (((1 : Int32) + q2).toNatClampNeg) ++ [(v, .inl (cy 0, (((1 : Int32) + q2).toNatClampNeg), .inl (fun _ => 0)))]) H := hM
  refine h_putF (j := 0) hx hb hown E hM hS hin rfl gC_X8 6 (by decide) rfl rfl (tyX8_ok 6 (by decide)) rfl rfl kw_1030 (Nat.le_of_ble_eq_true rfl) dX8_init_117 (fun H locs hM hS => ?_)
  replace hM : hW D cy ad b gμ0 [] ([(o0, .inr (8, [.ref (ad 0), .int ((2 : Int32) + q1), .int ((1 : Int32) + q2), .ref a1, .ref a2, .ref e, .ref v, .null, .ref a6, .ref a8, .null, .int (0 : Int32)])), (a1, .inl (cy 0, 2, .inl (fun _ => 0))), (a2, .inl (cy 0, 16, .inl (fun _ => 0))), (a6, .inr (13, [.int (0 : Int32), .ref (ad 461), .int (0 : Int32)])), (a8, .inl (cy 0, 3, .inl (upd (upd (upd (fun _ => 0) 0 (40 : Int32)) 1 (60 : Int32)) 2 (20 : Int32))))] ++ hends cy e r (((1 : Int32) + q2).toNatClampNeg) ++ [(v, .inl (cy 0, (((1 : Int32) + q2).toNatClampNeg), .inl (fun _ => 0)))]) H := hM
  refine lv_aload_n hx hb dX8_init_120 rfl (lv_at hl 0 rfl) ?_
  refine lv_aload_n hx hb dX8_init_121 rfl (lv_at hl 0 rfl) ?_
  refine h_get hx hb hown E hM (ht_m (List.mem_of_getElem? (i := 0) rfl)) gC_X8 2 (by decide) (v := .int ((1 : Int32) + q2)) rfl kw_1026 dX8_init_122 ?_
  refine h_newZn hx hb E hM hS (((1 : Int32) + q2).toNatClampNeg) (gIn_e cc.2) (by omega) (show _ ≤ 1876 by omega) (show _ ≤ 2285440 by first | (simp only [Nat.add_assoc, Nat.reduceAdd]; exact le_big hsl rfl) | exact le_big hsl rfl) dX8_init_125 (fun z H hM hS => ?_)
  replace hM : hW D cy ad b gμ0 [] ([(o0, .inr (8, [.ref (ad 0), .int ((2 : Int32) + q1), .int ((1 : Int32) + q2), .ref a1, .ref a2, .ref e, .ref v, .null, .ref a6, .ref a8, .null, .int (0 : Int32)])), (a1, .inl (cy 0, 2, .inl (fun _ => 0))), (a2, .inl (cy 0, 16, .inl (fun _ => 0))), (a6, .inr (13, [.int (0 : Int32), .ref (ad 461), .int (0 : Int32)])), (a8, .inl (cy 0, 3, .inl (upd (upd (upd (fun _ => 0) 0 (40 : Int32)) 1 (60 : Int32)) 2 (20 : Int32))))] ++ hends cy e r (((1 : Int32) + q2).toNatClampNeg) ++ [(v, .inl (cy 0, (((1 : Int32) + q2).toNatClampNeg), .inl (fun _ => 0)))] ++ [(z, .inl (cy 3, (((1 : Int32) + q2).toNatClampNeg), .inl (fun _ => 0)))]) H := hM
  refine h_putF (j := 0) hx hb hown E hM hS hin rfl gC_X8 7 (by decide) rfl rfl (tyX8_ok 7 (by decide)) rfl rfl kw_1031 (Nat.le_of_ble_eq_true rfl) dX8_init_127 (fun H locs hM hS => ?_)
  replace hM : hW D cy ad b gμ0 [] ([(o0, .inr (8, [.ref (ad 0), .int ((2 : Int32) + q1), .int ((1 : Int32) + q2), .ref a1, .ref a2, .ref e, .ref v, .ref z, .ref a6, .ref a8, .null, .int (0 : Int32)])), (a1, .inl (cy 0, 2, .inl (fun _ => 0))), (a2, .inl (cy 0, 16, .inl (fun _ => 0))), (a6, .inr (13, [.int (0 : Int32), .ref (ad 461), .int (0 : Int32)])), (a8, .inl (cy 0, 3, .inl (upd (upd (upd (fun _ => 0) 0 (40 : Int32)) 1 (60 : Int32)) 2 (20 : Int32))))] ++ hends cy e r (((1 : Int32) + q2).toNatClampNeg) ++ [(v, .inl (cy 0, (((1 : Int32) + q2).toNatClampNeg), .inl (fun _ => 0)))] ++ [(z, .inl (cy 3, (((1 : Int32) + q2).toNatClampNeg), .inl (fun _ => 0)))]) H := hM
  refine lv_aload_n hx hb dX8_init_130 rfl (lv_at hl 0 rfl) ?_
  refine h_get hx hb hown E hM (ht_m (List.mem_of_getElem? (i := 0) rfl)) gC_X8 9 (by decide) (v := .ref a8) rfl kw_1033 dX8_init_131 ?_
  refine lv_iconst (v := (0 : Int32)) hx hb dX8_init_134 (by decide) ?_
  refine lv_aload_n hx hb dX8_init_135 rfl (lv_at hl 1 rfl) ?_
  refine lv_iconst (v := (0 : Int32)) hx hb dX8_init_136 (by decide) ?_
  replace hM := hW.low (T := ([(o0, .inr (8, [.ref (ad 0), .int ((2 : Int32) + q1), .int ((1 : Int32) + q2), .ref a1, .ref a2, .ref e, .ref v, .ref z, .ref a6, .ref a8, .null, .int (0 : Int32)])), (a1, .inl (cy 0, 2, .inl (fun _ => 0))), (a2, .inl (cy 0, 16, .inl (fun _ => 0))), (a6, .inr (13, [.int (0 : Int32), .ref (ad 461), .int (0 : Int32)])), (a8, .inl (cy 0, 3, .inl (upd (upd (upd (fun _ => 0) 0 (40 : Int32)) 1 (60 : Int32)) 2 (20 : Int32))))] ++ hends cy e r (((1 : Int32) + q2).toNatClampNeg) ++ [(v, .inl (cy 0, (((1 : Int32) + q2).toNatClampNeg), .inl (fun _ => 0)))] ++ [(z, .inl (cy 3, (((1 : Int32) + q2).toNatClampNeg), .inl (fun _ => 0)))])) hM
  refine h_callSN (As := [.ref (ad 465), .int (0 : Int32)]) (rest := [.int (0 : Int32), .ref a8]) hx hb (hml.trans hl.1.symm) hown E hM hS xs_L_cell (E.2.1.2.2.1 _ (List.mem_of_getElem? (i := 0) rfl)) (c_cell (k := 0) (by decide)) rfl rfl (Nat.le_of_ble_eq_true rfl) ⟨(Nat.le_of_ble_eq_true rfl), (Nat.le_of_ble_eq_true rfl)⟩ ⟨(show _ ≤ 1876 by omega), (show _ ≤ 2285440 by first | (simp only [Nat.add_assoc, Nat.reduceAdd]; exact le_big hsl rfl) | exact le_big hsl rfl)⟩ dX8_init_137 (fun rv H locs hZ hS => ?_)
  obtain ⟨rfl, hM⟩ := hZ
  replace hM := hW.up (T := ([(o0, .inr (8, [.ref (ad 0), .int ((2 : Int32) + q1), .int ((1 : Int32) + q2), .ref a1, .ref a2, .ref e, .ref v, .ref z, .ref a6, .ref a8, .null, .int (0 : Int32)])), (a1, .inl (cy 0, 2, .inl (fun _ => 0))), (a2, .inl (cy 0, 16, .inl (fun _ => 0))), (a6, .inr (13, [.int (0 : Int32), .ref (ad 461), .int (0 : Int32)])), (a8, .inl (cy 0, 3, .inl (upd (upd (upd (fun _ => 0) 0 (40 : Int32)) 1 (60 : Int32)) 2 (20 : Int32))))] ++ hends cy e r (((1 : Int32) + q2).toNatClampNeg) ++ [(v, .inl (cy 0, (((1 : Int32) + q2).toNatClampNeg), .inl (fun _ => 0)))] ++ [(z, .inl (cy 3, (((1 : Int32) + q2).toNatClampNeg), .inl (fun _ => 0)))])) hM
  replace hM : hW D cy ad b gμ0 [] ([(o0, .inr (8, [.ref (ad 0), .int ((2 : Int32) + q1), .int ((1 : Int32) + q2), .ref a1, .ref a2, .ref e, .ref v, .ref z, .ref a6, .ref a8, .null, .int (0 : Int32)])), (a1, .inl (cy 0, 2, .inl (fun _ => 0))), (a2, .inl (cy 0, 16, .inl (fun _ => 0))), (a6, .inr (13, [.int (0 : Int32), .ref (ad 461), .int (0 : Int32)])), (a8, .inl (cy 0, 3, .inl (upd (upd (upd (fun _ => 0) 0 (40 : Int32)) 1 (60 : Int32)) 2 (20 : Int32))))] ++ hends cy e r (((1 : Int32) + q2).toNatClampNeg) ++ [(v, .inl (cy 0, (((1 : Int32) + q2).toNatClampNeg), .inl (fun _ => 0)))] ++ [(z, .inl (cy 3, (((1 : Int32) + q2).toNatClampNeg), .inl (fun _ => 0)))]) H := hM
  refine lv_bipush (v := (9 : Int32)) hx hb dX8_init_140 (by decide) ?_
  refine lv_ishr hx hb dX8_init_142 ?_
  refine lv_sipush (v := (200 : Int32)) hx hb dX8_init_143 (by decide) ?_
  obtain ⟨q3, hq3, h⟩ := gbind_e h
  refine h_callSCN (As := [.int ((scr ad 0) >>> ((9 : Int32) &&& 31)), .int (200 : Int32)]) (rest := [.int (0 : Int32), .ref a8]) hx hb (hml.trans hl.1.symm) hown E hM hS hy_L_mod (E.2.1.2.2.1 _ (List.mem_of_getElem? (i := 1) rfl)) (c_L_mod hq3) rfl rfl (Nat.le_of_ble_eq_true rfl) ⟨(Nat.le_of_ble_eq_true rfl), (Nat.le_of_ble_eq_true rfl)⟩ ⟨(show _ ≤ 1876 by omega), (show _ ≤ 2285440 by first | (simp only [Nat.add_assoc, Nat.reduceAdd]; exact le_big hsl rfl) | exact le_big hsl rfl)⟩ dX8_init_146 (fun H locs hM hS => ?_)
  refine h_iast (j := 4) hx hb E hM hS rfl (⟨by decide, by decide⟩ : gIn (0 : Int32) 3) dX8_init_149 (fun H locs hM hS => ?_)
  replace hM : hW D cy ad b gμ0 [] ([(o0, .inr (8, [.ref (ad 0), .int ((2 : Int32) + q1), .int ((1 : Int32) + q2), .ref a1, .ref a2, .ref e, .ref v, .ref z, .ref a6, .ref a8, .null, .int (0 : Int32)])), (a1, .inl (cy 0, 2, .inl (fun _ => 0))), (a2, .inl (cy 0, 16, .inl (fun _ => 0))), (a6, .inr (13, [.int (0 : Int32), .ref (ad 461), .int (0 : Int32)])), (a8, .inl (cy 0, 3, .inl (upd (upd (upd (upd (fun _ => 0) 0 (40 : Int32)) 1 (60 : Int32)) 2 (20 : Int32)) 0 q3)))] ++ hends cy e r (((1 : Int32) + q2).toNatClampNeg) ++ [(v, .inl (cy 0, (((1 : Int32) + q2).toNatClampNeg), .inl (fun _ => 0)))] ++ [(z, .inl (cy 3, (((1 : Int32) + q2).toNatClampNeg), .inl (fun _ => 0)))]) H := hM
  refine lv_aload_n hx hb dX8_init_150 rfl (lv_at hl 0 rfl) ?_
  refine h_get hx hb hown E hM (ht_m (List.mem_of_getElem? (i := 0) rfl)) gC_X8 3 (by decide) (v := .ref a1) rfl kw_1027 dX8_init_151 ?_
  refine lv_iconst (v := (0 : Int32)) hx hb dX8_init_154 (by decide) ?_
  refine lv_aload_n hx hb dX8_init_155 rfl (lv_at hl 1 rfl) ?_
  refine lv_iconst (v := (1 : Int32)) hx hb dX8_init_156 (by decide) ?_
  replace hM := hW.low (T := ([(o0, .inr (8, [.ref (ad 0), .int ((2 : Int32) + q1), .int ((1 : Int32) + q2), .ref a1, .ref a2, .ref e, .ref v, .ref z, .ref a6, .ref a8, .null, .int (0 : Int32)])), (a1, .inl (cy 0, 2, .inl (fun _ => 0))), (a2, .inl (cy 0, 16, .inl (fun _ => 0))), (a6, .inr (13, [.int (0 : Int32), .ref (ad 461), .int (0 : Int32)])), (a8, .inl (cy 0, 3, .inl (upd (upd (upd (upd (fun _ => 0) 0 (40 : Int32)) 1 (60 : Int32)) 2 (20 : Int32)) 0 q3)))] ++ hends cy e r (((1 : Int32) + q2).toNatClampNeg) ++ [(v, .inl (cy 0, (((1 : Int32) + q2).toNatClampNeg), .inl (fun _ => 0)))] ++ [(z, .inl (cy 3, (((1 : Int32) + q2).toNatClampNeg), .inl (fun _ => 0)))])) hM
  refine h_callSN (As := [.ref (ad 465), .int (1 : Int32)]) (rest := [.int (0 : Int32), .ref a1]) hx hb (hml.trans hl.1.symm) hown E hM hS xs_L_cell (E.2.1.2.2.1 _ (List.mem_of_getElem? (i := 0) rfl)) (c_cell (k := 1) (by decide)) rfl rfl (Nat.le_of_ble_eq_true rfl) ⟨(Nat.le_of_ble_eq_true rfl), (Nat.le_of_ble_eq_true rfl)⟩ ⟨(show _ ≤ 1876 by omega), (show _ ≤ 2285440 by first | (simp only [Nat.add_assoc, Nat.reduceAdd]; exact le_big hsl rfl) | exact le_big hsl rfl)⟩ dX8_init_157 (fun rv H locs hZ hS => ?_)
  obtain ⟨rfl, hM⟩ := hZ
  replace hM := hW.up (T := ([(o0, .inr (8, [.ref (ad 0), .int ((2 : Int32) + q1), .int ((1 : Int32) + q2), .ref a1, .ref a2, .ref e, .ref v, .ref z, .ref a6, .ref a8, .null, .int (0 : Int32)])), (a1, .inl (cy 0, 2, .inl (fun _ => 0))), (a2, .inl (cy 0, 16, .inl (fun _ => 0))), (a6, .inr (13, [.int (0 : Int32), .ref (ad 461), .int (0 : Int32)])), (a8, .inl (cy 0, 3, .inl (upd (upd (upd (upd (fun _ => 0) 0 (40 : Int32)) 1 (60 : Int32)) 2 (20 : Int32)) 0 q3)))] ++ hends cy e r (((1 : Int32) + q2).toNatClampNeg) ++ [(v, .inl (cy 0, (((1 : Int32) + q2).toNatClampNeg), .inl (fun _ => 0)))] ++ [(z, .inl (cy 3, (((1 : Int32) + q2).toNatClampNeg), .inl (fun _ => 0)))])) hM
  replace hM : hW D cy ad b gμ0 [] ([(o0, .inr (8, [.ref (ad 0), .int ((2 : Int32) + q1), .int ((1 : Int32) + q2), .ref a1, .ref a2, .ref e, .ref v, .ref z, .ref a6, .ref a8, .null, .int (0 : Int32)])), (a1, .inl (cy 0, 2, .inl (fun _ => 0))), (a2, .inl (cy 0, 16, .inl (fun _ => 0))), (a6, .inr (13, [.int (0 : Int32), .ref (ad 461), .int (0 : Int32)])), (a8, .inl (cy 0, 3, .inl (upd (upd (upd (upd (fun _ => 0) 0 (40 : Int32)) 1 (60 : Int32)) 2 (20 : Int32)) 0 q3)))] ++ hends cy e r (((1 : Int32) + q2).toNatClampNeg) ++ [(v, .inl (cy 0, (((1 : Int32) + q2).toNatClampNeg), .inl (fun _ => 0)))] ++ [(z, .inl (cy 3, (((1 : Int32) + q2).toNatClampNeg), .inl (fun _ => 0)))]) H := hM
  refine lv_sipush (v := (401 : Int32)) hx hb dX8_init_160 (by decide) ?_
  obtain ⟨q4, hq4, h⟩ := gbind_e h
  refine h_callSCN (As := [.int (scr ad 1), .int (401 : Int32)]) (rest := [.int (0 : Int32), .ref a1]) hx hb (hml.trans hl.1.symm) hown E hM hS hy_L_mod (E.2.1.2.2.1 _ (List.mem_of_getElem? (i := 1) rfl)) (c_L_mod hq4) rfl rfl (Nat.le_of_ble_eq_true rfl) ⟨(Nat.le_of_ble_eq_true rfl), (Nat.le_of_ble_eq_true rfl)⟩ ⟨(show _ ≤ 1876 by omega), (show _ ≤ 2285440 by first | (simp only [Nat.add_assoc, Nat.reduceAdd]; exact le_big hsl rfl) | exact le_big hsl rfl)⟩ dX8_init_163 (fun H locs hM hS => ?_)
  refine lv_sipush (v := (200 : Int32)) hx hb dX8_init_166 (by decide) ?_
  refine lv_isub hx hb dX8_init_169 ?_
  refine h_iast (j := 1) hx hb E hM hS rfl (⟨by decide, by decide⟩ : gIn (0 : Int32) 2) dX8_init_170 (fun H locs hM hS => ?_)
  replace hM : hW D cy ad b gμ0 [] ([(o0, .inr (8, [.ref (ad 0), .int ((2 : Int32) + q1), .int ((1 : Int32) + q2), .ref a1, .ref a2, .ref e, .ref v, .ref z, .ref a6, .ref a8, .null, .int (0 : Int32)])), (a1, .inl (cy 0, 2, .inl (upd (fun _ => 0) 0 (q4 - (200 : Int32))))), (a2, .inl (cy 0, 16, .inl (fun _ => 0))), (a6, .inr (13, [.int (0 : Int32), .ref (ad 461), .int (0 : Int32)])), (a8, .inl (cy 0, 3, .inl (upd (upd (upd (upd (fun _ => 0) 0 (40 : Int32)) 1 (60 : Int32)) 2 (20 : Int32)) 0 q3)))] ++ hends cy e r (((1 : Int32) + q2).toNatClampNeg) ++ [(v, .inl (cy 0, (((1 : Int32) + q2).toNatClampNeg), .inl (fun _ => 0)))] ++ [(z, .inl (cy 3, (((1 : Int32) + q2).toNatClampNeg), .inl (fun _ => 0)))]) H := hM
  refine lv_aload_n hx hb dX8_init_171 rfl (lv_at hl 0 rfl) ?_
  refine h_get hx hb hown E hM (ht_m (List.mem_of_getElem? (i := 0) rfl)) gC_X8 3 (by decide) (v := .ref a1) rfl kw_1027 dX8_init_172 ?_
  refine lv_iconst (v := (1 : Int32)) hx hb dX8_init_175 (by decide) ?_
  refine lv_aload_n hx hb dX8_init_176 rfl (lv_at hl 1 rfl) ?_
  refine lv_iconst (v := (1 : Int32)) hx hb dX8_init_177 (by decide) ?_
  replace hM := hW.low (T := ([(o0, .inr (8, [.ref (ad 0), .int ((2 : Int32) + q1), .int ((1 : Int32) + q2), .ref a1, .ref a2, .ref e, .ref v, .ref z, .ref a6, .ref a8, .null, .int (0 : Int32)])), (a1, .inl (cy 0, 2, .inl (upd (fun _ => 0) 0 (q4 - (200 : Int32))))), (a2, .inl (cy 0, 16, .inl (fun _ => 0))), (a6, .inr (13, [.int (0 : Int32), .ref (ad 461), .int (0 : Int32)])), (a8, .inl (cy 0, 3, .inl (upd (upd (upd (upd (fun _ => 0) 0 (40 : Int32)) 1 (60 : Int32)) 2 (20 : Int32)) 0 q3)))] ++ hends cy e r (((1 : Int32) + q2).toNatClampNeg) ++ [(v, .inl (cy 0, (((1 : Int32) + q2).toNatClampNeg), .inl (fun _ => 0)))] ++ [(z, .inl (cy 3, (((1 : Int32) + q2).toNatClampNeg), .inl (fun _ => 0)))])) hM
  refine h_callSN (As := [.ref (ad 465), .int (1 : Int32)]) (rest := [.int (1 : Int32), .ref a1]) hx hb (hml.trans hl.1.symm) hown E hM hS xs_L_cell (E.2.1.2.2.1 _ (List.mem_of_getElem? (i := 0) rfl)) (c_cell (k := 1) (by decide)) rfl rfl (Nat.le_of_ble_eq_true rfl) ⟨(Nat.le_of_ble_eq_true rfl), (Nat.le_of_ble_eq_true rfl)⟩ ⟨(show _ ≤ 1876 by omega), (show _ ≤ 2285440 by first | (simp only [Nat.add_assoc, Nat.reduceAdd]; exact le_big hsl rfl) | exact le_big hsl rfl)⟩ dX8_init_178 (fun rv H locs hZ hS => ?_)
  obtain ⟨rfl, hM⟩ := hZ
  replace hM := hW.up (T := ([(o0, .inr (8, [.ref (ad 0), .int ((2 : Int32) + q1), .int ((1 : Int32) + q2), .ref a1, .ref a2, .ref e, .ref v, .ref z, .ref a6, .ref a8, .null, .int (0 : Int32)])), (a1, .inl (cy 0, 2, .inl (upd (fun _ => 0) 0 (q4 - (200 : Int32))))), (a2, .inl (cy 0, 16, .inl (fun _ => 0))), (a6, .inr (13, [.int (0 : Int32), .ref (ad 461), .int (0 : Int32)])), (a8, .inl (cy 0, 3, .inl (upd (upd (upd (upd (fun _ => 0) 0 (40 : Int32)) 1 (60 : Int32)) 2 (20 : Int32)) 0 q3)))] ++ hends cy e r (((1 : Int32) + q2).toNatClampNeg) ++ [(v, .inl (cy 0, (((1 : Int32) + q2).toNatClampNeg), .inl (fun _ => 0)))] ++ [(z, .inl (cy 3, (((1 : Int32) + q2).toNatClampNeg), .inl (fun _ => 0)))])) hM
  replace hM : hW D cy ad b gμ0 [] ([(o0, .inr (8, [.ref (ad 0), .int ((2 : Int32) + q1), .int ((1 : Int32) + q2), .ref a1, .ref a2, .ref e, .ref v, .ref z, .ref a6, .ref a8, .null, .int (0 : Int32)])), (a1, .inl (cy 0, 2, .inl (upd (fun _ => 0) 0 (q4 - (200 : Int32))))), (a2, .inl (cy 0, 16, .inl (fun _ => 0))), (a6, .inr (13, [.int (0 : Int32), .ref (ad 461), .int (0 : Int32)])), (a8, .inl (cy 0, 3, .inl (upd (upd (upd (upd (fun _ => 0) 0 (40 : Int32)) 1 (60 : Int32)) 2 (20 : Int32)) 0 q3)))] ++ hends cy e r (((1 : Int32) + q2).toNatClampNeg) ++ [(v, .inl (cy 0, (((1 : Int32) + q2).toNatClampNeg), .inl (fun _ => 0)))] ++ [(z, .inl (cy 3, (((1 : Int32) + q2).toNatClampNeg), .inl (fun _ => 0)))]) H := hM
  refine lv_bipush (v := (9 : Int32)) hx hb dX8_init_181 (by decide) ?_
  refine lv_ishr hx hb dX8_init_183 ?_
  refine lv_bipush (v := (41 : Int32)) hx hb dX8_init_184 (by decide) ?_
  obtain ⟨q5, hq5, h⟩ := gbind_e h
  refine h_callSCN (As := [.int ((scr ad 1) >>> ((9 : Int32) &&& 31)), .int (41 : Int32)]) (rest := [.int (1 : Int32), .ref a1]) hx hb (hml.trans hl.1.symm) hown E hM hS hy_L_mod (E.2.1.2.2.1 _ (List.mem_of_getElem? (i := 1) rfl)) (c_L_mod hq5) rfl rfl (Nat.le_of_ble_eq_true rfl) ⟨(Nat.le_of_ble_eq_true rfl), (Nat.le_of_ble_eq_true rfl)⟩ ⟨(show _ ≤ 1876 by omega), (show _ ≤ 2285440 by first | (simp only [Nat.add_assoc, Nat.reduceAdd]; exact le_big hsl rfl) | exact le_big hsl rfl)⟩ dX8_init_186 (fun H locs hM hS => ?_)
  refine lv_bipush (v := (20 : Int32)) hx hb dX8_init_189 (by decide) ?_
  refine lv_isub hx hb dX8_init_191 ?_
  refine h_iast (j := 1) hx hb E hM hS rfl (⟨by decide, by decide⟩ : gIn (1 : Int32) 2) dX8_init_192 (fun H locs hM hS => ?_)
  replace hM : hW D cy ad b gμ0 [] ([(o0, .inr (8, [.ref (ad 0), .int ((2 : Int32) + q1), .int ((1 : Int32) + q2), .ref a1, .ref a2, .ref e, .ref v, .ref z, .ref a6, .ref a8, .null, .int (0 : Int32)])), (a1, .inl (cy 0, 2, .inl (upd (upd (fun _ => 0) 0 (q4 - (200 : Int32))) 1 (q5 - (20 : Int32))))), (a2, .inl (cy 0, 16, .inl (fun _ => 0))), (a6, .inr (13, [.int (0 : Int32), .ref (ad 461), .int (0 : Int32)])), (a8, .inl (cy 0, 3, .inl (upd (upd (upd (upd (fun _ => 0) 0 (40 : Int32)) 1 (60 : Int32)) 2 (20 : Int32)) 0 q3)))] ++ hends cy e r (((1 : Int32) + q2).toNatClampNeg) ++ [(v, .inl (cy 0, (((1 : Int32) + q2).toNatClampNeg), .inl (fun _ => 0)))] ++ [(z, .inl (cy 3, (((1 : Int32) + q2).toNatClampNeg), .inl (fun _ => 0)))]) H := hM
  replace hM := lws_start hM
  exact wj_Ln_193 h F E (show (lla0 o0 a1 a2 a6 a8 e v z r) 0 0 = o0 from rfl) (lν0_S cc.1 cc.2) kz (show _ ≤ 1876 by omega) (show _ ≤ 2285440 by first | (simp only [Nat.add_assoc, Nat.reduceAdd]; exact le_big hsl rfl) | exact le_big hsl rfl) hM hS hl

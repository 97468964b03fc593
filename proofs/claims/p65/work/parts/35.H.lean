/-! the law's side: behind the class's own objects lie P (what is only read) and T (what is at hand) -/
abbrev hA (b : Nat) : Nat → Prop := fun q => b ≤ q
def hW (D : va_G) (cy : Nat → ClassId) (ad : Nat → Nat) (b : Nat) (μ : gM) (P T : va_W) (H : Heap) : Prop := gW gFull D cy ad (b, P ++ T) μ H
abbrev hws (cy : Nat → ClassId) (ad : Nat → Nat) (μ : gM) (P T : va_W) : va_W := gws gFull cy ad μ ++ (P ++ T)
/-- calls through an interface -/
def hFl : List (String × MethodName × MethodName) := [("java/util/ArrayList$Itr", ⟨"java/util/Iterator", "hasNext", "()Z"⟩, yJx35411_hasNext_aae02), ("java/util/ArrayList$Itr", ⟨"java/util/Iterator", "next", "()Ljava/lang/Object;"⟩, yJx35411_next_0502b)]
/-- links among nest mates -/
def hNf : List (String × Nat × String × String × String × String) := [("java/util/ArrayList$Itr", 28, "java/util/ArrayList", "size", "I", "java/util/ArrayList"), ("LevelNetworkLaw", 33, RX8, "o", "LLevelNetwork;", "LevelNetworkLaw"), ("LevelNetworkLaw", 15, RX8, "isRead", "Z", "LevelNetworkLaw")]
def hNm : List (String × Nat × MethodName × String) := [(RX8, 35, yL_cell, "LevelNetworkLaw"), (RX8, 39, yL_mod, "LevelNetworkLaw"), (RX7, 13, yX4_init, RX7), (RX7, 22, yX6_init, RX7), (RX7, 29, yX2_init, RX7), (RX2, 11, yX5_init, RX7), (RX7, 36, yX0_init, RX7), (RX7, 43, yX1_init, RX7)]
def hNc : List (String × String) := [("java/lang/Integer", "java/lang/Object"), ("java/util/ArrayList", "java/lang/Object"), ("[I", "java/lang/Object"), ("[B", "java/lang/Object"), ("[Ljava/lang/Object;", "java/lang/Object")]
def hN (s : State) : Prop := (∀ q ∈ hFl, va_Fw q.1 q.2.1 q.2.2 s) ∧ (∀ q ∈ hNf, va_Nw (.fieldLinkNest q.1 q.2.1 q.2.2.1 q.2.2.2.1 q.2.2.2.2.1 q.2.2.2.2.2) s) ∧ (∀ q ∈ hNm, va_Nw (.methodLinkNest q.1 q.2.1 q.2.2.1 q.2.2.2) s) ∧ (∀ q ∈ hNc, va_Nw (.castable q.1 q.2) s) ∧ va_AOA .int s ∧ va_AO "java/lang/Object" s
/-- the texts that the law has as constants -/
def sTab : List (Nat × String × List Int32) := [(65, "set tolerance ", [115, 101, 116, 32, 116, 111, 108, 101, 114, 97, 110, 99, 101, 32]), (74, ";", [59]), (80, "level l", [108, 101, 118, 101, 108, 32, 108]), (85, " ", [32]), (93, " down;", [32, 100, 111, 119, 110, 59]), (96, "point p", [112, 111, 105, 110, 116, 32, 112]), (123, "line p", [108, 105, 110, 101, 32, 112]), (125, " p", [32, 112]), (127, " l", [32, 108])]
def sAt (i : Nat) : Nat × String × List Int32 := sTab.getD i (0, "", [])
/-- private methods of the builder's upper class -/
def hPv : List MethodName := [⟨"java/lang/AbstractStringBuilder", "ensureCapacityInternal", "(I)V"⟩, ⟨"java/lang/AbstractStringBuilder", "newCapacity", "(I)I"⟩, ⟨"java/lang/AbstractStringBuilder", "putStringAt", "(ILjava/lang/String;)V"⟩, ⟨"java/lang/AbstractStringBuilder", "inflateIfNeededFor", "(Ljava/lang/String;)V"⟩]
/-- what else: the selection of private methods, an array's clone, the class object of rows, a row of handlers, the script -/
def hX (ad : Nat → Nat) (b : Nat) (s : State) : Prop :=
  (∀ y ∈ hPv, va_Nw (.selects "java/lang/StringBuilder" y y) s) ∧ va_Nw (.castable "[B" "java/lang/Cloneable") s ∧ va_Mi "[Ljava/lang/Object;" (ad 464) s ∧ va_Dc s ∧
  (∃ o : Option Nat, va_Z "jdk/internal/util/Preconditions" "SIOOBE_FORMATTER" "Ljava/util/function/BiFunction;" (va_rf o) (hA b) s s.heap) ∧
  va_X (ad 465) (ad 466) (fun j => Int32.ofNat (ad (10000 + j))) s s.heap ∧ ad 465 < b ∧ ad 466 < 2 ^ 31
theorem hX_to {ad : Nat → Nat} {b : Nat} {s U : State} (hW : s.WarmedH U.vm) (hq : ∀ q : Nat, q < s.heap.size → ¬ hA b q → U.heap[q]? = s.heap[q]?) (h : hX ad b s) : hX ad b U := by
  obtain ⟨h1, h2, h3, h4, ⟨o, h5⟩, h6, h7, h8⟩ := h
  refine ⟨fun y hy => ?_, va_Nw.warmC hW h2, va_Mi.moved hW.alike h3, va_Dc.moved hW.alike h4, ⟨o, (va_Z.moved hW.alike h5).kept hq⟩, ?_, h7, h8⟩
  · exact word_at hW (good_of_word rfl) (h1 y hy)
  · refine (va_X.moved hW.alike h6).kept (hq _ ?_ (fun q => by have q : b ≤ ad 465 := q; omega))
    obtain ⟨scr, hs, -⟩ := h6
    exact (Array.getElem?_eq_some_iff.mp hs).1
/-- what lies there from the start: the boxes of small numbers, the empty row of lists, the texts -/
def hZ (ad : Nat → Nat) (b : Nat) (s : State) : Prop :=
  va_Z "java/lang/Integer$IntegerCache" "high" "I" (.int 127) (hA b) s s.heap ∧ va_Z "java/lang/Integer$IntegerCache" "cache" "[Ljava/lang/Integer;" (.ref (ad 460)) (hA b) s s.heap ∧ va_T (.object "java/lang/Integer") (ad 460) 256 (fun j => .ref (ad (200 + j))) (hA b) s s.heap ∧ vb_C (fun k => ad (200 + k)) (hA b) s s.heap ∧
  va_Z "java/util/ArrayList" "DEFAULTCAPACITY_EMPTY_ELEMENTDATA" "[Ljava/lang/Object;" (.ref (ad 461)) (hA b) s s.heap ∧ va_T (.object "java/lang/Object") (ad 461) 0 (fun _ => .null) (hA b) s s.heap ∧ va_Z "java/lang/String" "COMPACT_STRINGS" "Z" (.int 1) (hA b) s s.heap ∧
  vk_S 9 (sTab.map (fun q => q.2.2.length)) (sTab.map (fun q => q.2.2)) (fun i => ad (470 + i)) (fun i => ad (480 + i)) (hA b) s s.heap ∧ (∀ i, i < 9 → vk_R RX8 (sAt i).1 (sAt i).2.1 (ad (470 + i)) s) ∧
  va_Z "java/lang/Integer" "DigitOnes" "[B" (.ref (ad 462)) (hA b) s s.heap ∧ va_T .byte (ad 462) 100 (fun j => .int (nI (48 + j % 10))) (hA b) s s.heap ∧ va_Z "java/lang/Integer" "DigitTens" "[B" (.ref (ad 463)) (hA b) s s.heap ∧ va_T .byte (ad 463) 100 (fun j => .int (nI (48 + j / 10))) (hA b) s s.heap ∧ hX ad b s
theorem hZ_to {ad : Nat → Nat} {b : Nat} {s U : State} (hW : s.WarmedH U.vm) (hq : ∀ q : Nat, q < s.heap.size → ¬ hA b q → U.heap[q]? = s.heap[q]?) (h : hZ ad b s) : hZ ad b U := by
  obtain ⟨h1, h2, h3, h4, h5, h6, h7, h8, h9, h10, h11, h12, h13, h14⟩ := h
  exact ⟨(va_Z.moved hW.alike h1).kept hq, (va_Z.moved hW.alike h2).kept hq, (va_T.moved hW.alike h3).kept hq, (vb_C.moved hW.alike h4).kept hq, (va_Z.moved hW.alike h5).kept hq, (va_T.moved hW.alike h6).kept hq, (va_Z.moved hW.alike h7).kept hq, (vk_S.moved hW.alike h8).kept hq, fun i hi => vk_R.warm hW (h9 i hi), (va_Z.moved hW.alike h10).kept hq, (va_T.moved hW.alike h11).kept hq, (va_Z.moved hW.alike h12).kept hq, (va_T.moved hW.alike h13).kept hq, hX_to hW hq h14⟩
def hE (l : Launch) (D : va_G) (cy : Nat → ClassId) (ad : Nat → Nat) (b : Nat) (s : State) : Prop := gEnv l D cy ad (b, []) s ∧ hN s ∧ b ≤ s.heap.size ∧ hZ ad b s
def hB (l : Launch) (D : va_G) (cy : Nat → ClassId) (ad : Nat → Nat) (b : Nat) (μ : gM) (P T : va_W) (U : State) : Prop := hE l D cy ad b U ∧ hW D cy ad b μ P T U.heap
def hQ (b : Nat) (Z : Option Value → Heap → Prop) : Array Value → State → Outcome → State → Prop := fun _ st o t =>
  (∃ rv, o = .returned rv ∧ Z rv t.heap) ∧ st.heap.size ≤ t.heap.size ∧ ∀ q : Nat, q < st.heap.size → ¬ hA b q → t.heap[q]? = st.heap[q]?
theorem hN_to {s U : State} (hW : s.WarmedH U.vm) (h : hN s) : hN U := by
  refine ⟨fun q hq => ?_, fun q hq => va_Nw.warmF hW (h.2.1 q hq), fun q hq => va_Nw.warmM hW (h.2.2.1 q hq), fun q hq => va_Nw.warmC hW (h.2.2.2.1 q hq), over_moved (a := #[]) (a' := #[]) hW.alike h.2.2.2.2.1, va_AO.moved hW.alike h.2.2.2.2.2⟩
  refine va_Fw.moved ?_ hW.alike (h.1 q hq)
  simp only [hFl, List.mem_cons, List.not_mem_nil, or_false] at hq
  rcases hq with rfl | rfl <;> exact ⟨by decide, by decide⟩
theorem hE.to {l : Launch} {D : va_G} {cy : Nat → ClassId} {ad : Nat → Nat} {b : Nat} {s U : State} (hW : s.WarmedH U.vm) (hz : s.heap.size ≤ U.heap.size) (hq : ∀ q : Nat, q < s.heap.size → ¬ hA b q → U.heap[q]? = s.heap[q]?) (E : hE l D cy ad b s) : hE l D cy ad b U :=
  ⟨gEnv.to hW hq E.1, hN_to hW E.2.1, Nat.le_trans E.2.2.1 hz, hZ_to hW hq E.2.2.2⟩
theorem hE.g {l : Launch} {D : va_G} {cy : Nat → ClassId} {ad : Nat → Nat} {b : Nat} {s : State} (E : hE l D cy ad b s) (X : va_W) : gEnv l D cy ad (b, X) s := E.1
theorem hE.kw {l : Launch} {D : va_G} {cy : Nat → ClassId} {ad : Nat → Nat} {b : Nat} {s : State} (E : hE l D cy ad b s) {w : Cond} (h : gw w) {a : Array Value} : w.before a s = true := E.1.kw h
theorem hB_blind {l : Launch} {D : va_G} {cy : Nat → ClassId} {ad : Nat → Nat} {b : Nat} {μ : gM} {P T : va_W} {av : List Value} : FrameBlind (va_Pc av (hB l D cy ad b μ P T)) := fun a U g mk q =>
  ⟨q.1, hE.to (s := U) (U := U.calling g mk a) (State.WarmedH.refl U) (Nat.le_refl _) (fun _ _ _ => rfl) q.2.1, q.2.2⟩
theorem hB_at {l : Launch} {D : va_G} {cy : Nat → ClassId} {ad : Nat → Nat} {b : Nat} {μ : gM} {P T : va_W} {av : List Value} {s : State} {H : Heap} {locs : List Loc} (E : hE l D cy ad b s) (hM : hW D cy ad b μ P T H) (hS : va_S (hA b) s.heap H locs) : ∀ U : State, U.heap = H → s.WarmedH U.vm → va_Pc av (hB l D cy ad b μ P T) av.toArray U := fun U hU hW =>
  ⟨rfl, hE.to hW (by rw [hU]; exact hS.1) (fun q h1 h2 => by rw [hU]; exact hS.2.1 q h1 h2) E, by rw [hU]; exact hM⟩
section HWS
variable {cy : Nat → ClassId} {ad : Nat → Nat} {μ : gM} {P T : va_W} {q : Nat} {x : Nat × va_E}
theorem hp_at (h : P[q]? = some x) : (hws cy ad μ P T)[60 + q]? = some x := by
  have hl : q < P.length := (List.getElem?_eq_some_iff.mp h).1
  unfold hws
  rw [List.getElem?_append_right (by rw [gfl]; omega), gfl, Nat.add_sub_cancel_left, List.getElem?_append_left hl]
  exact h
theorem ht_at (h : T[q]? = some x) : (hws cy ad μ P T)[60 + (P.length + q)]? = some x := by
  unfold hws
  rw [List.getElem?_append_right (by rw [gfl]; omega), gfl, Nat.add_sub_cancel_left, List.getElem?_append_right (Nat.le_add_right _ _), Nat.add_sub_cancel_left]
  exact h
theorem ht_set : (hws cy ad μ P T).set (60 + (P.length + q)) x = hws cy ad μ P (T.set q x) := by
  unfold hws
  rw [List.set_append_right _ _ (by rw [gfl]; omega), gfl, Nat.add_sub_cancel_left, List.set_append_right _ _ (Nat.le_add_right _ _), Nat.add_sub_cancel_left]
theorem ht_push : hws cy ad μ P T ++ [x] = hws cy ad μ P (T ++ [x]) := by
  unfold hws
  rw [List.append_assoc, List.append_assoc]
theorem hp_m (h : x ∈ P) : x ∈ hws cy ad μ P T := List.mem_append_right _ (List.mem_append_left _ h)
theorem ht_m (h : x ∈ T) : x ∈ hws cy ad μ P T := List.mem_append_right _ (List.mem_append_right _ h)
theorem hc_at {k : Nat} (hk : gFull[q]? = some k) : (hws cy ad μ P T)[q]? = some (ad k, gE cy ad μ k) := gws_get hk
end HWS
section HPM
variable {D : va_G} {cy : Nat → ClassId} {ad : Nat → Nat} {b : Nat} {μ : gM} {P P1 T T1 A B : va_W} {t : Nat × va_E} {H : Heap}
theorem va_P_perm {D : va_G} {cl : List vw_C} {w1 w2 : va_W} {H : Heap} (h : ∀ x ∈ w2, x ∈ w1) (hP : va_P D cl w1 H) : va_P D cl w2 H := by
  intro k q hk
  obtain ⟨j, hj⟩ := List.getElem?_of_mem (h q (List.mem_of_getElem? hk))
  exact hP j q hj
theorem va_D_nd {A : Nat → Prop} {ws : va_W} : va_D A ws ↔ (ws.map Prod.fst).Nodup ∧ ∀ q ∈ ws, A q.1 := by
  constructor
  · intro h
    refine ⟨?_, fun q hq => ?_⟩
    · refine List.pairwise_iff_getElem.mpr (fun i j hi hj hij he => ?_)
      rw [List.length_map] at hi hj
      rw [List.getElem_map, List.getElem_map] at he
      have := h.1 i j _ _ (List.getElem?_eq_getElem hi) (List.getElem?_eq_getElem hj) he
      omega
    · obtain ⟨k, hk⟩ := List.getElem?_of_mem hq
      exact h.2 k q hk
  · rintro ⟨h1, h2⟩
    refine ⟨fun i j p q hi hj e => ?_, fun k q hk => h2 q (List.mem_of_getElem? hk)⟩
    have h1 := List.pairwise_iff_getElem.mp h1
    obtain ⟨li, ei⟩ := List.getElem?_eq_some_iff.mp hi
    obtain ⟨lj, ej⟩ := List.getElem?_eq_some_iff.mp hj
    have mi : i < (ws.map Prod.fst).length := by rw [List.length_map]; exact li
    have mj : j < (ws.map Prod.fst).length := by rw [List.length_map]; exact lj
    have e2 : (ws.map Prod.fst)[i] = (ws.map Prod.fst)[j] := by rw [List.getElem_map, List.getElem_map, ei, ej]; exact e
    rcases Nat.lt_trichotomy i j with h | h | h
    · exact absurd e2 (h1 i j mi mj h)
    · exact h
    · exact absurd e2.symm (h1 j i mj mi h)
/-- the same cells in another order, or fewer of them -/
theorem hW.sub (hs : ∃ X, (P ++ T).Perm ((P1 ++ T1) ++ X)) (h : hW D cy ad b μ P T H) : hW D cy ad b μ P1 T1 H := by
  obtain ⟨X, hp⟩ := hs
  obtain ⟨h1, h2⟩ := h
  have hq : (gws gFull cy ad μ ++ (P ++ T)).Perm ((gws gFull cy ad μ ++ (P1 ++ T1)) ++ X) := by
    rw [List.append_assoc]; exact List.Perm.append_left _ hp
  refine ⟨va_P_perm (fun x hx => hq.mem_iff.mpr (List.mem_append_left _ hx)) h1, ?_⟩
  have h3 := va_D_nd.mp h2
  refine va_D_nd.mpr ⟨?_, fun q hq1 => h3.2 q (hq.mem_iff.mpr (List.mem_append_left _ hq1))⟩
  have h4 := ((hq.map Prod.fst).nodup_iff).mp h3.1
  rw [List.map_append] at h4
  exact (List.nodup_append.mp h4).1
theorem hW.perm (hs : (P ++ T).Perm (P1 ++ T1)) (h : hW D cy ad b μ P T H) : hW D cy ad b μ P1 T1 H := hW.sub ⟨[], by rw [List.append_nil]; exact hs⟩ h
/-- the cells at hand go to those that are only read, and back -/
theorem hW.low (h : hW D cy ad b μ P T H) : hW D cy ad b μ (P ++ T) [] H := hW.perm (by rw [List.append_nil]) h
theorem hW.up (h : hW D cy ad b μ (P ++ T) [] H) : hW D cy ad b μ P T H := hW.perm (by rw [List.append_nil]) h
theorem hW.take (h : hW D cy ad b μ P (A ++ t :: B) H) : hW D cy ad b μ (P ++ (A ++ B)) [t] H := by
  refine hW.perm ?_ h
  rw [List.append_assoc]
  refine List.Perm.append_left _ ?_
  exact List.perm_middle.trans ((List.perm_append_comm (l₁ := [t]) (l₂ := A ++ B)))
theorem hW.put (h : hW D cy ad b μ (P ++ (A ++ B)) [t] H) : hW D cy ad b μ P (A ++ t :: B) H := by
  refine hW.perm ?_ h
  rw [List.append_assoc]
  refine List.Perm.append_left _ ?_
  have h9 : (A ++ t :: B).Perm ((A ++ B) ++ [t]) := List.perm_middle.trans (List.perm_append_comm (l₁ := [t]) (l₂ := A ++ B))
  exact h9.symm
theorem hW.right {X : va_W} (h : hW D cy ad b μ P (X ++ T) H) : hW D cy ad b μ (P ++ X) T H := hW.perm (by rw [List.append_assoc]) h
theorem hW.left {X : va_W} (h : hW D cy ad b μ (P ++ X) T H) : hW D cy ad b μ P (X ++ T) H := hW.perm (by rw [List.append_assoc]) h
theorem hW.keep {X : va_W} (h : hW D cy ad b μ P (X ++ T) H) : hW D cy ad b μ P X H := hW.sub ⟨T, by rw [List.append_assoc]⟩ h
theorem hW.drop (h : hW D cy ad b μ P T H) : hW D cy ad b μ P [] H := hW.sub ⟨T, by rw [List.append_nil]⟩ h
theorem hW.drop1 (h : hW D cy ad b μ P (A ++ t :: B) H) : hW D cy ad b μ P (A ++ B) H := hW.sub ⟨[t], by
  rw [List.append_assoc]
  exact List.Perm.append_left _ (List.perm_middle.trans (List.perm_append_comm (l₁ := [t]) (l₂ := A ++ B)))⟩ h
end HPM
section HROWS
variable {p : Program} {l : Launch} {e : Env} {R : Room} {s : State} {m : MethodId} {args : Array Value} {below : List Frame} {meth : Method} {c : Code} {H : Heap} {locs : List Loc} {cells slots : Nat} {Q : State → Prop}
variable {cc : ByteArray} {pc : Nat} {ls : Array Slot} {rest : List Value} {D : va_G} {cy : Nat → ClassId} {ad : Nat → Nat} {b a : Nat} {μ : gM} {P T : va_W} {own : String}
theorem h_get (hx : p.tables.exec = Jvm.exec) (hb : c.code = cc) (hown : s.vm.findClass own = some m.cls) (E : hE l D cy ad b s) (hM : hW D cy ad b μ P T H) {ci N idx : Nat} {fs : List Value} {C : String} {T0 : u_T} {ty0 : Nat → FieldType} (ha : (a, .inr (ci, fs)) ∈ hws cy ad μ P T) (hC : gC ci C T0 N ty0) (f : Nat) (hf : f < N) {v : Value} (hv : fs[f]? = some v) (hl : gw (.fieldLink own idx (T0 f).1 (T0 f).2.1 (T0 f).2.2.1)) (hdg : decode cc pc = .ok (.getfield idx, 3))
    (kk : W p l e R s m args below meth c H locs cells slots Q (F0 m (pc + 3) ls (v :: rest))) : W p l e R s m args below meth c H locs cells slots Q (F0 m pc ls (.ref a :: rest)) := by
  obtain ⟨k, ha⟩ := List.getElem?_of_mem ha
  exact va_get (D := D) (ci := ci) (v := v) (C := C) (T := T0) (N := N) hx hb (Ts := u_ws C T0 N) (fun w hw => E.kw (hC.2.1 w hw)) (fun _ h => h) hown E.1.1 hM.1 k ha hC.1 f hf (E.kw hl) (fun _ h9 => h9) hv hdg kk
theorem h_getN (hx : p.tables.exec = Jvm.exec) (hb : c.code = cc) (hown : s.vm.findClass own = some m.cls) (E : hE l D cy ad b s) (hM : hW D cy ad b μ P T H) {ci N idx : Nat} {fs : List Value} {C host : String} {T0 : u_T} {ty0 : Nat → FieldType} (ha : (a, .inr (ci, fs)) ∈ hws cy ad μ P T) (hC : gC ci C T0 N ty0) (f : Nat) (hf : f < N) {v : Value} (hv : fs[f]? = some v) (hl : (own, idx, (T0 f).1, (T0 f).2.1, (T0 f).2.2.1, host) ∈ hNf) (hdg : decode cc pc = .ok (.getfield idx, 3))
    (kk : W p l e R s m args below meth c H locs cells slots Q (F0 m (pc + 3) ls (v :: rest))) : W p l e R s m args below meth c H locs cells slots Q (F0 m pc ls (.ref a :: rest)) := by
  obtain ⟨k, ha⟩ := List.getElem?_of_mem ha
  exact va_getN (D := D) (ci := ci) (v := v) (C := C) (T := T0) (N := N) hx hb (Ts := u_ws C T0 N) (fun w hw => E.kw (hC.2.1 w hw)) (fun _ h => h) hown E.1.1 hM.1 k ha hC.1 f hf (va_Nw.use rfl (E.2.1.2.1 _ hl)) (fun _ h9 => h9) hv hdg kk
/-- a field of a class above, asked for by the name of the class itself -/
theorem h_getU (hx : p.tables.exec = Jvm.exec) (hb : c.code = cc) (hown : s.vm.findClass own = some m.cls) (E : hE l D cy ad b s) (hM : hW D cy ad b μ P T H) {ci N idx : Nat} {fs : List Value} {C ref : String} {T0 : u_T} {ty0 : Nat → FieldType} (ha : (a, .inr (ci, fs)) ∈ hws cy ad μ P T) (hC : gC ci C T0 N ty0) (f : Nat) (hf : f < N) {v : Value} (hv : fs[f]? = some v) (hl : gw (.fieldLink own idx ref (T0 f).2.1 (T0 f).2.2.1)) (hsm : gw (.sameField ref (T0 f).1 (T0 f).2.1 (T0 f).2.2.1)) (hdg : decode cc pc = .ok (.getfield idx, 3))
    (kk : W p l e R s m args below meth c H locs cells slots Q (F0 m (pc + 3) ls (v :: rest))) : W p l e R s m args below meth c H locs cells slots Q (F0 m pc ls (.ref a :: rest)) := by
  obtain ⟨k, ha⟩ := List.getElem?_of_mem ha
  exact va_get (D := D) (ci := ci) (v := v) (C := C) (T := T0) (N := N) hx hb (Ts := u_ws C T0 N) (fun w hw => E.kw (hC.2.1 w hw)) (fun _ h => h) hown E.1.1 hM.1 k ha hC.1 f hf (E.kw hl) (u_same (E.kw hsm (a := #[]))) hv hdg kk
theorem h_put (hx : p.tables.exec = Jvm.exec) (hb : c.code = cc) (hown : s.vm.findClass own = some m.cls) (E : hE l D cy ad b s) (hM : hW D cy ad b μ P T H) (hS : va_S (hA b) s.heap H locs) {ci N idx j : Nat} {fs : List Value} {C : String} {T0 : u_T} {ty0 : Nat → FieldType} (ha : T[j]? = some (a, .inr (ci, fs))) (hC : gC ci C T0 N ty0) (f : Nat) (hf : f < N) {v : Value} {ty : FieldType} (hfin : (T0 f).2.2.2 = false) (hp : parseFieldDescriptor (T0 f).2.2.1 = some ty) (hn : narrow ty v = v) (hfit : fits ty v = true) (hl : gw (.fieldLink own idx (T0 f).1 (T0 f).2.1 (T0 f).2.2.1)) (hlen : f < fs.length) (hdg : decode cc pc = .ok (.putfield idx, 3))
    (kk : ∀ (H1 : Heap) (locs1 : List Loc), hW D cy ad b μ P (T.set j (a, .inr (ci, fs.set f v))) H1 → va_S (hA b) s.heap H1 locs1 → W p l e R s m args below meth c H1 locs1 cells slots Q (F0 m (pc + 3) ls rest)) : W p l e R s m args below meth c H locs cells slots Q (F0 m pc ls (v :: .ref a :: rest)) := by
  refine va_put (D := D) (ci := ci) (v := v) (ty := ty) (C := C) (T := T0) (N := N) hx hb (Ts := u_ws C T0 N) (fun w hw => E.kw (hC.2.1 w hw)) (fun _ h => h) ty0 hC.2.2.1 hC.2.2.2 hown E.1.1 hM.1 hM.2 hS (60 + (P.length + j)) (ht_at ha) hC.1 f hf (E.kw hl) (fun _ h9 => h9) hfin hp hn hfit hlen hdg (fun H1 locs1 hP1 hD1 hS1 => kk H1 locs1 ?_ hS1)
  have e1 := ht_set (cy := cy) (ad := ad) (μ := μ) (P := P) (T := T) (q := j) (x := (a, .inr (ci, fs.set f v)))
  rw [e1] at hP1 hD1
  exact ⟨hP1, hD1⟩
theorem h_putU (hx : p.tables.exec = Jvm.exec) (hb : c.code = cc) (hown : s.vm.findClass own = some m.cls) (E : hE l D cy ad b s) (hM : hW D cy ad b μ P T H) (hS : va_S (hA b) s.heap H locs) {ci N idx j : Nat} {fs : List Value} {C ref : String} {T0 : u_T} {ty0 : Nat → FieldType} (ha : T[j]? = some (a, .inr (ci, fs))) (hC : gC ci C T0 N ty0) (f : Nat) (hf : f < N) {v : Value} {ty : FieldType} (hfin : (T0 f).2.2.2 = false) (hp : parseFieldDescriptor (T0 f).2.2.1 = some ty) (hn : narrow ty v = v) (hfit : fits ty v = true) (hl : gw (.fieldLink own idx ref (T0 f).2.1 (T0 f).2.2.1)) (hsm : gw (.sameField ref (T0 f).1 (T0 f).2.1 (T0 f).2.2.1)) (hlen : f < fs.length) (hdg : decode cc pc = .ok (.putfield idx, 3))
    (kk : ∀ (H1 : Heap) (locs1 : List Loc), hW D cy ad b μ P (T.set j (a, .inr (ci, fs.set f v))) H1 → va_S (hA b) s.heap H1 locs1 → W p l e R s m args below meth c H1 locs1 cells slots Q (F0 m (pc + 3) ls rest)) : W p l e R s m args below meth c H locs cells slots Q (F0 m pc ls (v :: .ref a :: rest)) := by
  refine va_put (D := D) (ci := ci) (v := v) (ty := ty) (C := C) (T := T0) (N := N) hx hb (Ts := u_ws C T0 N) (fun w hw => E.kw (hC.2.1 w hw)) (fun _ h => h) ty0 hC.2.2.1 hC.2.2.2 hown E.1.1 hM.1 hM.2 hS (60 + (P.length + j)) (ht_at ha) hC.1 f hf (E.kw hl) (u_same (E.kw hsm (a := #[]))) hfin hp hn hfit hlen hdg (fun H1 locs1 hP1 hD1 hS1 => kk H1 locs1 ?_ hS1)
  have e1 := ht_set (cy := cy) (ad := ad) (μ := μ) (P := P) (T := T) (q := j) (x := (a, .inr (ci, fs.set f v)))
  rw [e1] at hP1 hD1
  exact ⟨hP1, hD1⟩
theorem h_putF (hx : p.tables.exec = Jvm.exec) (hb : c.code = cc) (hown : s.vm.findClass own = some m.cls) (E : hE l D cy ad b s) (hM : hW D cy ad b μ P T H) (hS : va_S (hA b) s.heap H locs) (hin : meth.name = "<init>") {ci N idx j : Nat} {fs : List Value} {C : String} {T0 : u_T} {ty0 : Nat → FieldType} (ha : T[j]? = some (a, .inr (ci, fs))) (hC : gC ci C T0 N ty0) (f : Nat) (hf : f < N) {v : Value} {ty : FieldType} (hfin : (T0 f).2.2.2 = true) (hdecl : (T0 f).1 = own) (hp : parseFieldDescriptor (T0 f).2.2.1 = some ty) (hn : narrow ty v = v) (hfit : fits ty v = true) (hl : gw (.fieldLink own idx (T0 f).1 (T0 f).2.1 (T0 f).2.2.1)) (hlen : f < fs.length) (hdg : decode cc pc = .ok (.putfield idx, 3))
    (kk : ∀ (H1 : Heap) (locs1 : List Loc), hW D cy ad b μ P (T.set j (a, .inr (ci, fs.set f v))) H1 → va_S (hA b) s.heap H1 locs1 → W p l e R s m args below meth c H1 locs1 cells slots Q (F0 m (pc + 3) ls rest)) : W p l e R s m args below meth c H locs cells slots Q (F0 m pc ls (v :: .ref a :: rest)) := by
  refine va_putF (D := D) (ci := ci) (v := v) (ty := ty) (C := C) (T := T0) (N := N) hx hb (Ts := u_ws C T0 N) (fun w hw => E.kw (hC.2.1 w hw)) (fun _ h => h) ty0 hC.2.2.1 hC.2.2.2 hown E.1.1 hM.1 hM.2 hS (60 + (P.length + j)) (ht_at ha) hC.1 f hf (E.kw hl) (fun _ h9 => h9) hfin hin hdecl hp hn hfit hlen hdg (fun H1 locs1 hP1 hD1 hS1 => kk H1 locs1 ?_ hS1)
  have e1 := ht_set (cy := cy) (ad := ad) (μ := μ) (P := P) (T := T) (q := j) (x := (a, .inr (ci, fs.set f v)))
  rw [e1] at hP1 hD1
  exact ⟨hP1, hD1⟩
theorem h_iald (hx : p.tables.exec = Jvm.exec) (hb : c.code = cc) (E : hE l D cy ad b s) (hM : hW D cy ad b μ P T H) {n : Nat} {g : Nat → Int32} (ha : (a, .inl (cy 0, n, .inl g)) ∈ hws cy ad μ P T) {i : Int32} (hin : gIn i n) (hdg : decode cc pc = .ok (.iaload, 1))
    (kk : W p l e R s m args below meth c H locs cells slots Q (F0 m (pc + 1) ls (.int (g i.toNatClampNeg) :: rest))) : W p l e R s m args below meth c H locs cells slots Q (F0 m pc ls (.int i :: .ref a :: rest)) := by
  obtain ⟨k, ha⟩ := List.getElem?_of_mem ha
  exact va_iald hx hb E.1.1 hM.1 k 0 ha rfl (gIn_v hin) hdg kk
theorem h_lald (hx : p.tables.exec = Jvm.exec) (hb : c.code = cc) (E : hE l D cy ad b s) (hM : hW D cy ad b μ P T H) {n : Nat} {g : Nat → Int64} (ha : (a, .inl (cy 1, n, .inr (.inl g))) ∈ hws cy ad μ P T) {i : Int32} (hin : gIn i n) (hdg : decode cc pc = .ok (.laload, 1))
    (kk : W p l e R s m args below meth c H locs cells slots Q (F0 m (pc + 1) ls (.long (g i.toNatClampNeg) :: rest))) : W p l e R s m args below meth c H locs cells slots Q (F0 m pc ls (.int i :: .ref a :: rest)) := by
  obtain ⟨k, ha⟩ := List.getElem?_of_mem ha
  exact va_lald hx hb E.1.1 hM.1 k 1 ha rfl (gIn_v hin) hdg kk
theorem h_zald (hx : p.tables.exec = Jvm.exec) (hb : c.code = cc) (E : hE l D cy ad b s) (hM : hW D cy ad b μ P T H) {n : Nat} {g : Nat → Int32} (ha : (a, .inl (cy 3, n, .inl g)) ∈ hws cy ad μ P T) {i : Int32} (hin : gIn i n) (hdg : decode cc pc = .ok (.baload, 1))
    (kk : W p l e R s m args below meth c H locs cells slots Q (F0 m (pc + 1) ls (.int (g i.toNatClampNeg) :: rest))) : W p l e R s m args below meth c H locs cells slots Q (F0 m pc ls (.int i :: .ref a :: rest)) := by
  obtain ⟨k, ha⟩ := List.getElem?_of_mem ha
  exact va_zald hx hb E.1.1 hM.1 k 3 ha rfl (gIn_v hin) hdg kk
theorem h_bald (hx : p.tables.exec = Jvm.exec) (hb : c.code = cc) (E : hE l D cy ad b s) (hM : hW D cy ad b μ P T H) {n : Nat} {g : Nat → Int32} (ha : (a, .inl (cy 2, n, .inl g)) ∈ hws cy ad μ P T) {i : Int32} (hin : gIn i n) (hdg : decode cc pc = .ok (.baload, 1))
    (kk : W p l e R s m args below meth c H locs cells slots Q (F0 m (pc + 1) ls (.int (g i.toNatClampNeg) :: rest))) : W p l e R s m args below meth c H locs cells slots Q (F0 m pc ls (.int i :: .ref a :: rest)) := by
  obtain ⟨k, ha⟩ := List.getElem?_of_mem ha
  exact va_bald hx hb E.1.1 hM.1 k 2 ha rfl (gIn_v hin) hdg kk
/-- an element of a row of references to objects -/
theorem h_aald (hx : p.tables.exec = Jvm.exec) (hb : c.code = cc) (E : hE l D cy ad b s) (hM : hW D cy ad b μ P T H) {n : Nat} {g : Nat → Option Nat} (ha : (a, .inl (cy 4, n, .inr (.inr (.inr (.inr g))))) ∈ hws cy ad μ P T) {i : Int32} (hin : gIn i n) {v : Value} (hv : va_rf (g i.toNatClampNeg) = v) (hdg : decode cc pc = .ok (.aaload, 1))
    (kk : W p l e R s m args below meth c H locs cells slots Q (F0 m (pc + 1) ls (v :: rest))) : W p l e R s m args below meth c H locs cells slots Q (F0 m pc ls (.int i :: .ref a :: rest)) := by
  obtain ⟨k, ha⟩ := List.getElem?_of_mem ha
  subst hv
  exact va_aldq (C := "java/lang/Object") hx hb E.1.1 hM.1 k 4 ha rfl (gIn_v hin) hdg kk
/-- an element of a row of rows -/
theorem h_rald (hx : p.tables.exec = Jvm.exec) (hb : c.code = cc) (E : hE l D cy ad b s) (hM : hW D cy ad b μ P T H) {n : Nat} {g : Nat → Option Nat} (ha : (a, .inl (cy 5, n, .inr (.inr (.inr (.inr g))))) ∈ hws cy ad μ P T) {i : Int32} (hin : gIn i n) {v : Value} (hv : va_rf (g i.toNatClampNeg) = v) (hdg : decode cc pc = .ok (.aaload, 1))
    (kk : W p l e R s m args below meth c H locs cells slots Q (F0 m (pc + 1) ls (v :: rest))) : W p l e R s m args below meth c H locs cells slots Q (F0 m pc ls (.int i :: .ref a :: rest)) := by
  obtain ⟨k, ha⟩ := List.getElem?_of_mem ha
  subst hv
  have hin := gIn_v hin
  have hlt : i.toNatClampNeg < n := Nat.not_le.mp fun q => hin (Or.inr q)
  exact W.aald (v := va_rf (g i.toNatClampNeg)) (ty := .array .int) hx hb (hM.1 k _ ha) ((E.1.1.2 5 (cy 5, .array .int) rfl).1 n (fun j => va_rf (g j))) rfl (fun q => by cases q) (by show ¬ (i < 0 ∨ (arrV _ _ _).slots.size ≤ _); rw [arrV_size]; exact hin) (by show (arrV _ _ _).slots[_]? = _; rw [arrV_read _ _ hlt]) rfl rfl hdg kk
theorem h_alen (hx : p.tables.exec = Jvm.exec) (hb : c.code = cc) (E : hE l D cy ad b s) (hM : hW D cy ad b μ P T H) (t : Nat) {y : vp_A} {ty : FieldType} (ha : (a, .inl (cy t, y)) ∈ hws cy ad μ P T) (hty : (gT cy)[t]? = some (cy t, ty)) {v : Int32} (hv : Int32.ofNat y.1 = v) (hdg : decode cc pc = .ok (.arraylength, 1))
    (kk : W p l e R s m args below meth c H locs cells slots Q (F0 m (pc + 1) ls (.int v :: rest))) : W p l e R s m args below meth c H locs cells slots Q (F0 m pc ls (.ref a :: rest)) := by
  obtain ⟨k, ha⟩ := List.getElem?_of_mem ha
  exact va_alen hx hb E.1.1 hM.1 k t ha hty hv hdg kk
theorem h_T {j : Nat} {x : Nat × va_E} {H1 : Heap} (hP1 : va_P D vwCl ((hws cy ad μ P T).set (60 + (P.length + j)) x) H1) (hD1 : va_D (hA b) ((hws cy ad μ P T).set (60 + (P.length + j)) x)) : hW D cy ad b μ P (T.set j x) H1 := by
  rw [ht_set] at hP1 hD1
  exact ⟨hP1, hD1⟩
theorem h_iast (hx : p.tables.exec = Jvm.exec) (hb : c.code = cc) (E : hE l D cy ad b s) (hM : hW D cy ad b μ P T H) (hS : va_S (hA b) s.heap H locs) {j n : Nat} {g : Nat → Int32} (ha : T[j]? = some (a, .inl (cy 0, n, .inl g))) {i x : Int32} (hin : gIn i n) (hdg : decode cc pc = .ok (.iastore, 1))
    (kk : ∀ (H1 : Heap) (locs1 : List Loc), hW D cy ad b μ P (T.set j (a, .inl (cy 0, n, .inl (upd g i.toNatClampNeg x)))) H1 → va_S (hA b) s.heap H1 locs1 → W p l e R s m args below meth c H1 locs1 cells slots Q (F0 m (pc + 1) ls rest)) : W p l e R s m args below meth c H locs cells slots Q (F0 m pc ls (.int x :: .int i :: .ref a :: rest)) :=
  va_iast hx hb E.1.1 hM.1 hM.2 hS (60 + (P.length + j)) 0 (ht_at ha) rfl (gIn_v hin) hdg (fun H1 locs1 hP1 hD1 hS1 => kk H1 locs1 (h_T hP1 hD1) hS1)
theorem h_last (hx : p.tables.exec = Jvm.exec) (hb : c.code = cc) (E : hE l D cy ad b s) (hM : hW D cy ad b μ P T H) (hS : va_S (hA b) s.heap H locs) {j n : Nat} {g : Nat → Int64} (ha : T[j]? = some (a, .inl (cy 1, n, .inr (.inl g)))) {i : Int32} {x : Int64} (hin : gIn i n) (hdg : decode cc pc = .ok (.lastore, 1))
    (kk : ∀ (H1 : Heap) (locs1 : List Loc), hW D cy ad b μ P (T.set j (a, .inl (cy 1, n, .inr (.inl (vp_updL g i.toNatClampNeg x))))) H1 → va_S (hA b) s.heap H1 locs1 → W p l e R s m args below meth c H1 locs1 cells slots Q (F0 m (pc + 1) ls rest)) : W p l e R s m args below meth c H locs cells slots Q (F0 m pc ls (.long x :: .int i :: .ref a :: rest)) :=
  va_last hx hb E.1.1 hM.1 hM.2 hS (60 + (P.length + j)) 1 (ht_at ha) rfl (gIn_v hin) hdg (fun H1 locs1 hP1 hD1 hS1 => kk H1 locs1 (h_T hP1 hD1) hS1)
/-- an object of the class comes into being -/
theorem h_new (hx : p.tables.exec = Jvm.exec) (hb : c.code = cc) (hown : s.vm.findClass own = some m.cls) (E : hE l D cy ad b s) (hM : hW D cy ad b μ P T H) (hS : va_S (hA b) s.heap H locs) {ci N idx : Nat} {C : String} {T0 : u_T} {ty0 : Nat → FieldType} (hC : gC ci C T0 N ty0) (hcl : gw (.classLink own idx C)) (hin : gw (.instantiable C N)) (hini : gw (.initialized C)) {fs : List Value} (hfs : ∀ j, j < N → defaultValue (ty0 j) = vp_V fs j) (hc : cells + 1 ≤ R.cells) (hs : slots + N ≤ R.slots) (hdg : decode cc pc = .ok (.new idx, 3))
    (kk : ∀ (q : Nat) (H1 : Heap), hW D cy ad b μ P (T ++ [(q, .inr (ci, fs))]) H1 → va_S (hA b) s.heap H1 locs → W p l e R s m args below meth c H1 locs (cells + 1) (slots + N) Q (F0 m (pc + 3) ls (.ref q :: rest))) : W p l e R s m args below meth c H locs cells slots Q (F0 m pc ls rest) := by
  refine va_new (D := D) (ci := ci) (C := C) (T := T0) (N := N) hx hb (Ts := u_ws C T0 N) (fun w hw => E.kw (hC.2.1 w hw)) (fun _ h => h) ty0 hC.2.2.1 hown (E.kw hcl) (E.kw hin) (E.kw hini) E.1.1 hM.1 hM.2 hS (fun q h => Nat.le_trans E.2.2.1 h) hC.1 hfs hc hs hdg (fun q H1 hP1 hD1 hS1 => kk q H1 ?_ hS1)
  have e1 := ht_push (cy := cy) (ad := ad) (μ := μ) (P := P) (T := T) (x := (q, .inr (ci, fs)))
  rw [e1] at hP1 hD1
  exact ⟨hP1, hD1⟩
theorem h_castY (hx : p.tables.exec = Jvm.exec) (hb : c.code = cc) (hown : s.vm.findClass own = some m.cls) (E : hE l D cy ad b s) (hM : hW D cy ad b μ P T H) {ci N idx : Nat} {fs : List Value} {C : String} {T0 : u_T} {ty0 : Nat → FieldType} (ha : (a, .inr (ci, fs)) ∈ hws cy ad μ P T) (hC : gC ci C T0 N ty0) (hcl : gw (.classLink own idx C)) (hdg : decode cc pc = .ok (.checkcast idx, 3))
    (kk : W p l e R s m args below meth c H locs cells slots Q (F0 m (pc + 3) ls (.ref a :: rest))) : W p l e R s m args below meth c H locs cells slots Q (F0 m pc ls (.ref a :: rest)) := by
  obtain ⟨k, ha⟩ := List.getElem?_of_mem ha
  exact va_castS hx hb hown (E.kw hcl) (E.1.1.1 ci _ hC.1).2 (va_recv E.1.1 hM.1 hC.1 ha) hdg kk
theorem h_castI (hx : p.tables.exec = Jvm.exec) (hb : c.code = cc) (hown : s.vm.findClass own = some m.cls) (E : hE l D cy ad b s) (hM : hW D cy ad b μ P T H) {idx n : Nat} {g : Nat → Int32} (ha : (a, .inl (cy 0, n, .inl g)) ∈ hws cy ad μ P T) (hcl : gw (.classLink own idx "[I")) (hdg : decode cc pc = .ok (.checkcast idx, 3))
    (kk : W p l e R s m args below meth c H locs cells slots Q (F0 m (pc + 3) ls (.ref a :: rest))) : W p l e R s m args below meth c H locs cells slots Q (F0 m pc ls (.ref a :: rest)) := by
  obtain ⟨k, ha⟩ := List.getElem?_of_mem ha
  exact va_castA hx hb hown (E.kw hcl) hM.1 k ha ((E.1.1.2 0 (cy 0, .int) rfl).2) hdg kk
/-- a call of a method of the class: it leaves alone what lies behind its own objects -/
theorem h_callC (hx : p.tables.exec = Jvm.exec) (hb : c.code = cc) (hml : c.maxLocals = ls.size) (hown : s.vm.findClass own = some m.cls) (E : hE l D cy ad b s) (hM : hW D cy ad b μ P T H) (hS : va_S (hA b) s.heap H locs) {y : MethodName} {bytes : ByteArray} {maxL n idx q k0 ci N fr lo : Nat} {ret : Option FieldType} {rv : Option Value} {As : List Value} {fs : List Nat} {T0 : u_T} {st : List Value} {μ' : gM} (hy : gYV y bytes maxL ret n) (hl : gw (.methodLink own idx y))
    (hMt : Met l y [.code y bytes maxL ret] ({ frames := fr, cells := 0, slots := 0, locals := lo }) (va_Pc (.ref (ad k0) :: As) (gB l gFull D cy ad (b, P ++ T) μ)) (gQ rv gFull D cy ad (b, P ++ T) μ') 0 0 (gA (b, P ++ T)))
    (hk : gFull[q]? = some k0) (hd : gDesc k0 = .inr (ci, fs)) (hC : vwCl[ci]? = some (y.cls, T0, N)) (hn : As.length = n) (hst : st = As.reverse ++ .ref (ad k0) :: rest) (hroom : (rest.map fun v => v.category).sum ≤ 8) (hR : fr + 1 ≤ R.frames ∧ 8 + (maxL + 11) + lo ≤ R.locals) (hcs : cells ≤ R.cells ∧ slots ≤ R.slots) (hdg : decode cc pc = .ok (.invokevirtual idx, 3))
    (kk : ∀ (H1 : Heap) (locs1 : List Loc), hW D cy ad b μ' P T H1 → va_S (hA b) s.heap H1 locs1 → W p l e R s m args below meth c H1 locs1 cells slots Q (F0 m (pc + 3) ls (rv.toList ++ rest))) : W p l e R s m args below meth c H locs cells slots Q (F0 m pc ls st) :=
  g_callV (base := (b, P ++ T)) hx hb hml hown (E.g _) hM hS hy hl hMt hk hd hC hn hst hroom hR hcs hdg kk
theorem h_S {st t : State} {Lc : List Loc} (hS : va_S (hA b) s.heap H locs) (h0 : st.heap = H) (hz : st.heap.size ≤ t.heap.size) (hq : ∀ q : Nat, q < st.heap.size → ¬ hA b q → t.heap[q]? = st.heap[q]?) (hL : ∀ q ∈ Lc, hA b q.base) : va_S (hA b) s.heap t.heap (locs ++ Lc) := g_S_call (base := (b, [])) hS h0 hz hq hL
theorem h_callV (hx : p.tables.exec = Jvm.exec) (hb : c.code = cc) (hml : c.maxLocals = ls.size) (hown : s.vm.findClass own = some m.cls) (E : hE l D cy ad b s) {P1 T1 : va_W} (hM : hW D cy ad b μ P1 T1 H) (hS : va_S (hA b) s.heap H locs) {y : MethodName} {bytes : ByteArray} {maxL n idx ci N fr lo mc ms : Nat} {ret : Option FieldType} {Z : Option Value → Heap → Prop} {As : List Value} {fs : List Value} {T0 : u_T} {st : List Value} (hy : gYV y bytes maxL ret n) (hl : gw (.methodLink own idx y))
    (hMt : Met l y [.code y bytes maxL ret] ({ frames := fr, cells := mc, slots := ms, locals := lo }) (va_Pc (.ref a :: As) (hB l D cy ad b μ P1 T1)) (hQ b Z) mc ms (hA b))
    (ha : (a, .inr (ci, fs)) ∈ hws cy ad μ P1 T1) (hC : vwCl[ci]? = some (y.cls, T0, N)) (hn : As.length = n) (hst : st = As.reverse ++ .ref a :: rest) (hroom : (rest.map fun v => v.category).sum ≤ 8) (hR : fr + 1 ≤ R.frames ∧ 8 + (maxL + 11) + lo ≤ R.locals) (hcs : cells + mc ≤ R.cells ∧ slots + ms ≤ R.slots) (hdg : decode cc pc = .ok (.invokevirtual idx, 3))
    (kk : ∀ (rv : Option Value) (H1 : Heap) (locs1 : List Loc), Z rv H1 → va_S (hA b) s.heap H1 locs1 → W p l e R s m args below meth c H1 locs1 (cells + mc) (slots + ms) Q (F0 m (pc + 3) ls (rv.toList ++ rest))) : W p l e R s m args below meth c H locs cells slots Q (F0 m pc ls st) := by
  obtain ⟨k, ha⟩ := List.getElem?_of_mem ha
  subst hst
  intro T0 hT X
  obtain ⟨y1, y2, y3, y4, y5, y6⟩ := hy
  have cb : CallB R s args own idx y bytes maxL ret [.code y bytes maxL ret] ({ frames := fr, cells := mc, slots := ms, locals := lo }) mc ms n :=
    ⟨rfl, rfl, hR.1, hR.2, (fun w hw a' U hW => by rw [List.mem_singleton.mp hw]; exact word_at hW (good_of_word y1.2) (E.kw y1 (a := #[]))), List.mem_cons_self, E.kw y1, E.kw y2, y5, (fun sig h => by rw [h] at y6; exact (Option.some.inj y6).symm), E.kw hl⟩
  obtain ⟨cellB, g1, g2, g3⟩ := va_recv E.1.1 hM.1 hC ha
  obtain ⟨v, st₀, t, T', L9, h0, X', hL, e1, e2, ⟨⟨rv, hv, hZ⟩, hz, hq⟩, st⟩ := va_runV (As := As) (rest := rest) (b := a) (C := y.cls) (own := own) (Ts := []) (nL := ls.size) ⟨hx, hb, hml, hown, fun _ h => nomatch h⟩ hMt ⟨cb, E.kw y3, E.kw y4⟩ ⟨hB_blind, ⟨cellB, g1, g2, g3⟩, hB_at E hM hS⟩ (g := F0 m pc ls (As.reverse ++ .ref a :: rest)) rfl hn rfl rfl (lv_room hroom) hdg hcs T0 hT X
  cases hv
  obtain ⟨t2, a1, b1⟩ := kk v t.heap (locs ++ L9) hZ (h_S hS h0 hz hq hL) T' e1 X'
  exact ⟨t2, st t2 a1, b1⟩
theorem h_callS (hx : p.tables.exec = Jvm.exec) (hb : c.code = cc) (hml : c.maxLocals = ls.size) (hown : s.vm.findClass own = some m.cls) (E : hE l D cy ad b s) {P1 T1 : va_W} (hM : hW D cy ad b μ P1 T1 H) (hS : va_S (hA b) s.heap H locs) {y : MethodName} {bytes : ByteArray} {maxL n idx fr lo mc ms : Nat} {ret : Option FieldType} {Z : Option Value → Heap → Prop} {As : List Value} {st : List Value} (hy : gYS y bytes maxL ret n) (hl : gw (.methodLink own idx y))
    (hMt : Met l y [.code y bytes maxL ret] ({ frames := fr, cells := mc, slots := ms, locals := lo }) (va_Pc As (hB l D cy ad b μ P1 T1)) (hQ b Z) mc ms (hA b))
    (hn : As.length = n) (hst : st = As.reverse ++ rest) (hroom : (rest.map fun v => v.category).sum ≤ 8) (hR : fr + 1 ≤ R.frames ∧ 8 + (maxL + 11) + lo ≤ R.locals) (hcs : cells + mc ≤ R.cells ∧ slots + ms ≤ R.slots) (hdg : decode cc pc = .ok (.invokestatic idx, 3))
    (kk : ∀ (rv : Option Value) (H1 : Heap) (locs1 : List Loc), Z rv H1 → va_S (hA b) s.heap H1 locs1 → W p l e R s m args below meth c H1 locs1 (cells + mc) (slots + ms) Q (F0 m (pc + 3) ls (rv.toList ++ rest))) : W p l e R s m args below meth c H locs cells slots Q (F0 m pc ls st) := by
  subst hst
  intro T0 hT X
  obtain ⟨y1, y2, y3, y5, y6⟩ := hy
  have cb : CallB R s args own idx y bytes maxL ret [.code y bytes maxL ret] ({ frames := fr, cells := mc, slots := ms, locals := lo }) mc ms n :=
    ⟨rfl, rfl, hR.1, hR.2, (fun w hw a' U hW => by rw [List.mem_singleton.mp hw]; exact word_at hW (good_of_word y1.2) (E.kw y1 (a := #[]))), List.mem_cons_self, E.kw y1, E.kw y2, y5, (fun sig h => by rw [h] at y6; exact (Option.some.inj y6).symm), E.kw hl⟩
  obtain ⟨v, st₀, t, T', L9, h0, X', hL, e1, e2, ⟨⟨rv, hv, hZ⟩, hz, hq⟩, st⟩ := va_runS (As := As) (rest := rest) (own := own) (Ts := []) (nL := ls.size) ⟨hx, hb, hml, hown, fun _ h => nomatch h⟩ hMt ⟨cb, E.kw y3⟩ ⟨hB_blind, hB_at E hM hS⟩ (g := F0 m pc ls (As.reverse ++ rest)) rfl hn rfl rfl (lv_room hroom) hdg hcs T0 hT X
  cases hv
  obtain ⟨t2, a1, b1⟩ := kk v t.heap (locs ++ L9) hZ (h_S hS h0 hz hq hL) T' e1 X'
  exact ⟨t2, st t2 a1, b1⟩
/-- a constructor (not Object's) -/
def gYI (y : MethodName) (cc : ByteArray) (nL : Nat) (n : Nat) : Prop := gw (.code y cc nL none) ∧ gw (.initialized y.cls) ∧ gw (.instanceMethod y) ∧ (y.cls ≠ "java/lang/invoke/MethodHandle" ∧ y.cls ≠ "java/lang/invoke/VarHandle") ∧ (parseMethodDescriptor y.desc).map (fun d => d.parameters.length) = some n ∧ y.name = "<init>"
theorem h_callI (hx : p.tables.exec = Jvm.exec) (hb : c.code = cc) (hml : c.maxLocals = ls.size) (hown : s.vm.findClass own = some m.cls) (E : hE l D cy ad b s) {P1 T1 : va_W} (hM : hW D cy ad b μ P1 T1 H) (hS : va_S (hA b) s.heap H locs) {y : MethodName} {bytes : ByteArray} {maxL n idx fr lo mc ms : Nat} {Z : Option Value → Heap → Prop} {As : List Value} {st : List Value} (hy : gYI y bytes maxL n) (hl : gw (.methodLink own idx y))
    (hMt : Met l y [.code y bytes maxL none] ({ frames := fr, cells := mc, slots := ms, locals := lo }) (va_Pc (.ref a :: As) (hB l D cy ad b μ P1 T1)) (hQ b Z) mc ms (hA b))
    (hn : As.length = n) (hst : st = As.reverse ++ .ref a :: rest) (hroom : (rest.map fun v => v.category).sum ≤ 8) (hR : fr + 1 ≤ R.frames ∧ 8 + (maxL + 11) + lo ≤ R.locals) (hcs : cells + mc ≤ R.cells ∧ slots + ms ≤ R.slots) (hdg : decode cc pc = .ok (.invokespecial idx, 3))
    (kk : ∀ (rv : Option Value) (H1 : Heap) (locs1 : List Loc), Z rv H1 → va_S (hA b) s.heap H1 locs1 → W p l e R s m args below meth c H1 locs1 (cells + mc) (slots + ms) Q (F0 m (pc + 3) ls (rv.toList ++ rest))) : W p l e R s m args below meth c H locs cells slots Q (F0 m pc ls st) := by
  subst hst
  intro T0 hT X
  obtain ⟨y1, y2, y3, y5, y6, y7⟩ := hy
  have cb : CallB R s args own idx y bytes maxL none [.code y bytes maxL none] ({ frames := fr, cells := mc, slots := ms, locals := lo }) mc ms n :=
    ⟨rfl, rfl, hR.1, hR.2, (fun w hw a' U hW => by rw [List.mem_singleton.mp hw]; exact word_at hW (good_of_word y1.2) (E.kw y1 (a := #[]))), List.mem_cons_self, E.kw y1, E.kw y2, y5, (fun sig h => by rw [h] at y6; exact (Option.some.inj y6).symm), E.kw hl⟩
  obtain ⟨v, st₀, t, T', L9, h0, X', hL, e1, e2, ⟨⟨rv, hv, hZ⟩, hz, hq⟩, st⟩ := va_runI (As := As) (rest := rest) (b := a) (own := own) (Ts := []) (nL := ls.size) ⟨hx, hb, hml, hown, fun _ h => nomatch h⟩ hMt ⟨cb, y7, E.kw y3⟩ ⟨hB_blind, hB_at E hM hS⟩ (g := F0 m pc ls (As.reverse ++ .ref a :: rest)) rfl hn rfl rfl (lv_room hroom) hdg hcs T0 hT X
  cases hv
  obtain ⟨t2, a1, b1⟩ := kk v t.heap (locs ++ L9) hZ (h_S hS h0 hz hq hL) T' e1 X'
  exact ⟨t2, st t2 a1, b1⟩
/-- a call through an interface -/
def gYF (C : String) (x y : MethodName) (cc : ByteArray) (nL : Nat) (ret : Option FieldType) (n : Nat) : Prop := gw (.code y cc nL ret) ∧ gw (.initialized y.cls) ∧ gw (.instanceMethod y) ∧ gw (.selects C x y) ∧ (x.cls ≠ "java/lang/invoke/MethodHandle" ∧ x.cls ≠ "java/lang/invoke/VarHandle") ∧ (parseMethodDescriptor x.desc).map (fun d => d.parameters.length) = some n ∧ (C, x, y) ∈ hFl
theorem h_callF (hx : p.tables.exec = Jvm.exec) (hb : c.code = cc) (hml : c.maxLocals = ls.size) (hown : s.vm.findClass own = some m.cls) (E : hE l D cy ad b s) {P1 T1 : va_W} (hM : hW D cy ad b μ P1 T1 H) (hS : va_S (hA b) s.heap H locs) {C : String} {x y : MethodName} {bytes : ByteArray} {maxL n idx count ci N fr lo mc ms : Nat} {ret : Option FieldType} {Z : Option Value → Heap → Prop} {As : List Value} {fs : List Value} {T0 : u_T} {st : List Value} (hy : gYF C x y bytes maxL ret n) (hl : gw (.methodLink own idx x))
    (hMt : Met l y [.code y bytes maxL ret] ({ frames := fr, cells := mc, slots := ms, locals := lo }) (va_Pc (.ref a :: As) (hB l D cy ad b μ P1 T1)) (hQ b Z) mc ms (hA b))
    (ha : (a, .inr (ci, fs)) ∈ hws cy ad μ P1 T1) (hC : vwCl[ci]? = some (C, T0, N)) (hn : As.length = n) (hst : st = As.reverse ++ .ref a :: rest) (hroom : (rest.map fun v => v.category).sum ≤ 8) (hR : fr + 1 ≤ R.frames ∧ 8 + (maxL + 11) + lo ≤ R.locals) (hcs : cells + mc ≤ R.cells ∧ slots + ms ≤ R.slots) (hdg : decode cc pc = .ok (.invokeinterface idx count, 5))
    (kk : ∀ (rv : Option Value) (H1 : Heap) (locs1 : List Loc), Z rv H1 → va_S (hA b) s.heap H1 locs1 → W p l e R s m args below meth c H1 locs1 (cells + mc) (slots + ms) Q (F0 m (pc + 5) ls (rv.toList ++ rest))) : W p l e R s m args below meth c H locs cells slots Q (F0 m pc ls st) := by
  obtain ⟨k, ha⟩ := List.getElem?_of_mem ha
  subst hst
  intro T0 hT X
  obtain ⟨y1, y2, y3, y4, y5, y6, y7⟩ := hy
  obtain ⟨f1, f2, f3, f4, f5⟩ := E.2.1.1 _ y7
  have cb : va_CI R s args own C idx x y bytes maxL ret [.code y bytes maxL ret] ({ frames := fr, cells := mc, slots := ms, locals := lo }) mc ms n :=
    ⟨⟨rfl, rfl, hR.1, hR.2, (fun w hw a' U hW => by rw [List.mem_singleton.mp hw]; exact word_at hW (good_of_word y1.2) (E.kw y1 (a := #[]))), List.mem_cons_self⟩, E.kw hl, va_any rfl f1, va_any rfl f2, E.kw y4, E.kw y3, va_any rfl f3, va_any rfl f4, va_any rfl f5, E.kw y2, E.kw y1, y5, (fun sig h => by rw [h] at y6; exact (Option.some.inj y6).symm)⟩
  obtain ⟨cellB, g1, g2, g3⟩ := va_recv E.1.1 hM.1 hC ha
  obtain ⟨v, st₀, t, T', L9, h0, X', hL, e1, e2, ⟨⟨rv, hv, hZ⟩, hz, hq⟩, st⟩ := va_runF (As := As) (rest := rest) (b := a) (C := C) (own := own) (Ts := []) (nL := ls.size) (E.1.1.1 ci _ hC).2 ⟨hx, hb, hml, hown, fun _ h => nomatch h⟩ hMt cb ⟨hB_blind, ⟨cellB, g1, g2, g3⟩, hB_at E hM hS⟩ (g := F0 m pc ls (As.reverse ++ .ref a :: rest)) rfl hn rfl rfl (lv_room hroom) hdg hcs T0 hT X
  cases hv
  obtain ⟨t2, a1, b1⟩ := kk v t.heap (locs ++ L9) hZ (h_S hS h0 hz hq hL) T' e1 X'
  exact ⟨t2, st t2 a1, b1⟩
section HRET
variable {mc ms : Nat} {Z : Option Value → Heap → Prop}
theorem h_iret {v : Int32} (hx : p.tables.exec = Jvm.exec) (hb : c.code = cc) (hr : meth.sig.returnType = some .int) (hlocks : meth.locks = false) (h1 : cells ≤ mc) (h2 : slots ≤ ms) (hz : Z (some (.int v)) H) (hS : va_S (hA b) s.heap H locs) (hdg : decode cc pc = .ok (.ireturn, 1)) : W p l e R s m args below meth c H locs cells slots (MQ below (hQ b Z) args s mc ms (hA b)) (F0 m pc ls [.int v]) :=
  W.widen h1 h2 (W.iret hx hb hr (fun t ht hW => ⟨⟨_, rfl, by rw [ht]; exact hz⟩, by rw [ht]; exact hS.1, by rw [ht]; exact hS.2.1⟩) hS.2.2 hdg hlocks)
theorem h_zret {v : Int32} (hx : p.tables.exec = Jvm.exec) (hb : c.code = cc) (hr : meth.sig.returnType = some .boolean) (hlocks : meth.locks = false) (h1 : cells ≤ mc) (h2 : slots ≤ ms) (hn : narrow .boolean (.int v) = .int v) (hz : Z (some (.int v)) H) (hS : va_S (hA b) s.heap H locs) (hdg : decode cc pc = .ok (.ireturn, 1)) : W p l e R s m args below meth c H locs cells slots (MQ below (hQ b Z) args s mc ms (hA b)) (F0 m pc ls [.int v]) :=
  W.widen h1 h2 (W.zret hx hb hr hn (fun t ht hW => ⟨⟨_, rfl, by rw [ht]; exact hz⟩, by rw [ht]; exact hS.1, by rw [ht]; exact hS.2.1⟩) hS.2.2 hdg hlocks)
theorem h_lret {v : Int64} (hx : p.tables.exec = Jvm.exec) (hb : c.code = cc) (hr : meth.sig.returnType = some .long) (hlocks : meth.locks = false) (h1 : cells ≤ mc) (h2 : slots ≤ ms) (hz : Z (some (.long v)) H) (hS : va_S (hA b) s.heap H locs) (hdg : decode cc pc = .ok (.lreturn, 1)) : W p l e R s m args below meth c H locs cells slots (MQ below (hQ b Z) args s mc ms (hA b)) (F0 m pc ls [.long v]) :=
  W.widen h1 h2 (W.lret hx hb hr (fun t ht hW => ⟨⟨_, rfl, by rw [ht]; exact hz⟩, by rw [ht]; exact hS.1, by rw [ht]; exact hS.2.1⟩) hS.2.2 hdg hlocks)
theorem h_vret (hx : p.tables.exec = Jvm.exec) (hb : c.code = cc) (hr : meth.sig.returnType = none) (hlocks : meth.locks = false) (h1 : cells ≤ mc) (h2 : slots ≤ ms) (hz : Z none H) (hS : va_S (hA b) s.heap H locs) (hdg : decode cc pc = .ok (.return_, 1)) : W p l e R s m args below meth c H locs cells slots (MQ below (hQ b Z) args s mc ms (hA b)) (F0 m pc ls []) :=
  W.widen h1 h2 (W.vret hx hb hr (fun t ht hW => ⟨⟨_, rfl, by rw [ht]; exact hz⟩, by rw [ht]; exact hS.1, by rw [ht]; exact hS.2.1⟩) hS.2.2 hdg hlocks)
theorem h_aret {v : Nat} {rt : FieldType} (hx : p.tables.exec = Jvm.exec) (hb : c.code = cc) (hr : meth.sig.returnType = some rt) (hrt : (∃ n, rt = .object n) ∨ ∃ t, rt = .array t) (hlocks : meth.locks = false) (h1 : cells ≤ mc) (h2 : slots ≤ ms) (hz : Z (some (.ref v)) H) (hS : va_S (hA b) s.heap H locs) (hdg : decode cc pc = .ok (.areturn, 1)) : W p l e R s m args below meth c H locs cells slots (MQ below (hQ b Z) args s mc ms (hA b)) (F0 m pc ls [.ref v]) :=
  W.widen h1 h2 (W.aret hx hb hr hrt (Or.inr ⟨v, rfl⟩) (fun t ht hW => ⟨⟨_, rfl, by rw [ht]; exact hz⟩, by rw [ht]; exact hS.1, by rw [ht]; exact hS.2.1⟩) hS.2.2 hdg hlocks)
theorem h_aretN {rt : FieldType} (hx : p.tables.exec = Jvm.exec) (hb : c.code = cc) (hr : meth.sig.returnType = some rt) (hrt : (∃ n, rt = .object n) ∨ ∃ t, rt = .array t) (hlocks : meth.locks = false) (h1 : cells ≤ mc) (h2 : slots ≤ ms) (hz : Z (some .null) H) (hS : va_S (hA b) s.heap H locs) (hdg : decode cc pc = .ok (.areturn, 1)) : W p l e R s m args below meth c H locs cells slots (MQ below (hQ b Z) args s mc ms (hA b)) (F0 m pc ls [.null]) :=
  W.widen h1 h2 (W.aret hx hb hr hrt (Or.inl rfl) (fun t ht hW => ⟨⟨_, rfl, by rw [ht]; exact hz⟩, by rw [ht]; exact hS.1, by rw [ht]; exact hS.2.1⟩) hS.2.2 hdg hlocks)
end HRET
end HROWS

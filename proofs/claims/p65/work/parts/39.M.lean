/-! square matrices (rows of rows) at hand, rows of longs, and further rows -/
def hmat (cy : Nat → ClassId) (a : Nat) (r : Nat → Nat) (n : Nat) (M : Nat → Nat → Int32) : va_W := (a, .inl (cy 5, n, .inr (.inr (.inr (.inr (lRf n r)))))) :: (List.range n).map (fun i => (r i, .inl (cy 0, n, .inl (M i))))
def upd2 (M : Nat → Nat → Int32) (i j : Nat) (x : Int32) : Nat → Nat → Int32 := fun a b => if a = i ∧ b = j then x else M a b
section HMAT
variable {cy : Nat → ClassId} {a : Nat} {r : Nat → Nat} {n : Nat} {M : Nat → Nat → Int32}
theorem hmat_o : (a, .inl (cy 5, n, .inr (.inr (.inr (.inr (lRf n r)))))) ∈ hmat cy a r n M := List.mem_cons_self
theorem hmat_r {i : Nat} (hi : i < n) : (r i, .inl (cy 0, n, .inl (M i))) ∈ hmat cy a r n M := List.mem_cons_of_mem _ (List.mem_map.mpr ⟨i, List.mem_range.mpr hi, rfl⟩)
theorem hmat_i {i : Nat} (hi : i < n) : (hmat cy a r n M)[i + 1]? = some (r i, .inl (cy 0, n, .inl (M i))) := by
  unfold hmat
  rw [List.getElem?_cons_succ, List.getElem?_map, List.getElem?_range hi]
  rfl
theorem hmat_set {i j : Nat} {x : Int32} (hi : i < n) : (hmat cy a r n M).set (i + 1) (r i, .inl (cy 0, n, .inl (upd (M i) j x))) = hmat cy a r n (upd2 M i j x) := by
  unfold hmat
  rw [List.set_cons_succ]
  congr 1
  apply List.ext_getElem?
  intro k
  rw [List.getElem?_set, List.length_map, List.length_range]
  by_cases c : i = k
  · subst c
    have eM : upd (M i) j x = upd2 M i j x i := by
      funext b
      unfold upd2 upd
      by_cases e : b = j
      · rw [if_pos e, if_pos ⟨rfl, e⟩]
      · rw [if_neg e, if_neg (fun q => e q.2)]
    rw [if_pos rfl, if_pos hi, List.getElem?_map, List.getElem?_range hi, eM]
    rfl
  · rw [if_neg c]
    have eM : M k = upd2 M i j x k := by
      funext b
      unfold upd2
      rw [if_neg (fun q => c q.1.symm)]
    rcases Nat.lt_or_ge k n with h | h
    · rw [List.getElem?_map, List.getElem?_map, List.getElem?_range h]
      show some ((r k, .inl (cy 0, n, .inl (M k))) : Nat × va_E) = some (r k, .inl (cy 0, n, .inl (upd2 M i j x k)))
      rw [eM]
    · rw [List.getElem?_eq_none (by rw [List.length_map, List.length_range]; exact h), List.getElem?_eq_none (by rw [List.length_map, List.length_range]; exact h)]
end HMAT
theorem x_lrf {n : Nat} {f : Nat → Nat} {i : Int32} (h : gIn i n) : va_rf (lRf n f i.toNatClampNeg) = .ref (f i.toNatClampNeg) := by rw [lRf_in h.2]; rfl
theorem b2i_z {q : Prop} [Decidable q] : b2i (decide q) = 0 ↔ ¬ q := by
  by_cases h : q
  · rw [decide_eq_true h]; exact ⟨fun e => absurd e (by decide), fun e => absurd h e⟩
  · rw [decide_eq_false h]; exact ⟨fun _ => h, fun _ => rfl⟩
theorem xf_has : gYF "java/util/ArrayList$Itr" ⟨"java/util/Iterator", "hasNext", "()Z"⟩ yJx35411_hasNext_aae02 cJx35411_hasNext_aae02 1 (some .boolean) 0 := ⟨kw_1182, kw_79, kw_1180, kw_1178, ⟨by decide +kernel, by decide +kernel⟩, by decide +kernel, List.mem_of_getElem? (i := 0) rfl⟩
theorem xf_next : gYF "java/util/ArrayList$Itr" ⟨"java/util/Iterator", "next", "()Ljava/lang/Object;"⟩ yJx35411_next_0502b cJx35411_next_0502b 3 (some (.object "java/lang/Object")) 0 := ⟨kw_1191, kw_79, kw_1189, kw_1187, ⟨by decide +kernel, by decide +kernel⟩, by decide +kernel, List.mem_of_getElem? (i := 1) rfl⟩
def imin (x y : Int32) : Int32 := if y < x then y else x
theorem lHv_n {la : Nat → Nat → Nat} {ν : gM} (h : gi ν 0 10 = 0) : lHv la ν = .null := if_pos h
theorem lHv_a {la : Nat → Nat → Nat} {ν : gM} (h : ¬ gi ν 0 10 = 0) : lHv la ν = .ref (la 9 0) := if_neg h
section HR2
variable {p : Program} {l : Launch} {e : Env} {R : Room} {s : State} {m : MethodId} {args : Array Value} {below : List Frame} {meth : Method} {c : Code} {H : Heap} {locs : List Loc} {cells slots : Nat} {Q : State → Prop}
variable {cc : ByteArray} {pc : Nat} {ls : Array Slot} {rest : List Value} {D : va_G} {cy : Nat → ClassId} {ad : Nat → Nat} {b a : Nat} {μ : gM} {P T : va_W} {own : String}
theorem l_iald (hx : p.tables.exec = Jvm.exec) (hb : c.code = cc) (E : hE l D cy ad b s) (hM : hW D cy ad b μ P T H) {n : Nat} {g : Nat → Int32} (ha : (a, .inl (cy 0, n, .inl g)) ∈ hws cy ad μ P T) {i : Int32} (hin : gIn i n) {v : Int32} (hv : g i.toNatClampNeg = v) (hdg : decode cc pc = .ok (.iaload, 1))
    (kk : W p l e R s m args below meth c H locs cells slots Q (F0 m (pc + 1) ls (.int v :: rest))) : W p l e R s m args below meth c H locs cells slots Q (F0 m pc ls (.int i :: .ref a :: rest)) := by subst hv; exact h_iald hx hb E hM ha hin hdg kk
theorem l_zald (hx : p.tables.exec = Jvm.exec) (hb : c.code = cc) (E : hE l D cy ad b s) (hM : hW D cy ad b μ P T H) {n : Nat} {g : Nat → Int32} (ha : (a, .inl (cy 3, n, .inl g)) ∈ hws cy ad μ P T) {i : Int32} (hin : gIn i n) {v : Int32} (hv : g i.toNatClampNeg = v) (hdg : decode cc pc = .ok (.baload, 1))
    (kk : W p l e R s m args below meth c H locs cells slots Q (F0 m (pc + 1) ls (.int v :: rest))) : W p l e R s m args below meth c H locs cells slots Q (F0 m pc ls (.int i :: .ref a :: rest)) := by subst hv; exact h_zald hx hb E hM ha hin hdg kk
theorem l_lald (hx : p.tables.exec = Jvm.exec) (hb : c.code = cc) (E : hE l D cy ad b s) (hM : hW D cy ad b μ P T H) {n : Nat} {g : Nat → Int64} (ha : (a, .inl (cy 1, n, .inr (.inl g))) ∈ hws cy ad μ P T) {i : Int32} (hin : gIn i n) {v : Int64} (hv : g i.toNatClampNeg = v) (hdg : decode cc pc = .ok (.laload, 1))
    (kk : W p l e R s m args below meth c H locs cells slots Q (F0 m (pc + 1) ls (.long v :: rest))) : W p l e R s m args below meth c H locs cells slots Q (F0 m pc ls (.int i :: .ref a :: rest)) := by subst hv; exact h_lald hx hb E hM ha hin hdg kk
/-- a place of a matrix at hand is written -/
theorem l_mst (hx : p.tables.exec = Jvm.exec) (hb : c.code = cc) (E : hE l D cy ad b s) {r : Nat → Nat} {n : Nat} {M : Nat → Nat → Int32} (hM : hW D cy ad b μ P (hmat cy a r n M) H) (hS : va_S (hA b) s.heap H locs) {k : Nat} (hk : k < n) {i x : Int32} (hin : gIn i n) (hdg : decode cc pc = .ok (.iastore, 1))
    (kk : ∀ (H1 : Heap) (locs1 : List Loc), hW D cy ad b μ P (hmat cy a r n (upd2 M k i.toNatClampNeg x)) H1 → va_S (hA b) s.heap H1 locs1 → W p l e R s m args below meth c H1 locs1 cells slots Q (F0 m (pc + 1) ls rest)) : W p l e R s m args below meth c H locs cells slots Q (F0 m pc ls (.int x :: .int i :: .ref (r k) :: rest)) :=
  h_iast hx hb E hM hS (hmat_i hk) hin hdg (fun H1 locs1 hM1 hS1 => kk H1 locs1 (by rw [hmat_set hk] at hM1; exact hM1) hS1)
/-- a matrix comes into being -/
theorem l_mna (hx : p.tables.exec = Jvm.exec) (hb : c.code = cc) (hown : s.vm.findClass own = some m.cls) (E : hE l D cy ad b s) (hM : hW D cy ad b μ P [] H) (hS : va_S (hA b) s.heap H locs) {idx n : Nat} (hn : n ≤ 8) (hcl : gw (.classLink own idx "[[I")) (hover : va_AOA .int s) (hc : cells + 9 ≤ R.cells) (hs : slots + 72 ≤ R.slots) (hdg : decode cc pc = .ok (.multianewarray idx 2, 4))
    (kk : ∀ (q : Nat) (r : Nat → Nat) (H1 : Heap), hW D cy ad b μ P (hmat cy q r n (fun _ _ => 0)) H1 → va_S (hA b) s.heap H1 locs → W p l e R s m args below meth c H1 locs (cells + 9) (slots + 72) Q (F0 m (pc + 4) ls (.ref q :: rest))) : W p l e R s m args below meth c H locs cells slots Q (F0 m pc ls (.int (nI n) :: .int (nI n) :: rest)) := by
  have hsq : n + n * n ≤ 72 := by
    have : n * n ≤ 8 * 8 := Nat.mul_le_mul hn hn
    omega
  have e0 : hws cy ad μ P [] = hws cy ad μ P [] ++ va_pl [] (fun _ => .inr (0, [])) := (List.append_nil _).symm
  obtain ⟨hP, hD⟩ := hM
  have hP : va_P D vwCl (hws cy ad μ P [] ++ va_pl [] (fun _ => .inr (0, []))) H := e0 ▸ hP
  have hD : va_D (hA b) (hws cy ad μ P [] ++ va_pl [] (fun _ => .inr (0, []))) := e0 ▸ hD
  refine va_mna (X := hws cy ad μ P []) (L := []) (f := fun _ => .inr (0, [])) (ty := .int) (cy := cy 0) (N' := n) (K' := n) (z := (n, .inl (fun _ => 0))) hx hb hown (E.kw hcl) hover (E.kw kw_230) ((E.1.1.2 0 (cy 0, .int) rfl).2) E.1.1 hP hD hS (fun q h => Nat.le_trans E.2.2.1 h) (nI_pos (by omega)) (nI_pos (by omega)) (nI_clamp (by omega)) (nI_clamp (by omega)) (by omega) (by show n * 4 ≤ _; omega) (by omega) rfl rfl (by omega) (by omega) (fun c9 => by show ({ cls := c9, slots := Array.replicate n (.int 0), vm := .none } : Cell) = _; rw [arrV_new]; rfl) hdg (fun q r cA H1 hinj hnew hK1 hP1 hD1 hS1 => ?_)
  have e1 : s.vm.findClass ("[" ++ (FieldType.array .int).toString) = some cA := (hK1.2 6 (cA, .array .int) rfl).2
  have e2 : s.vm.findClass ("[" ++ (FieldType.array .int).toString) = some (cy 5) := (E.1.1.2 5 (cy 5, .array .int) rfl).2
  obtain rfl : cA = cy 5 := Option.some.inj (e1.symm.trans e2)
  refine W.widen (by omega) (by omega) (kk q r H1 ?_ hS1)
  have e3 : (hws cy ad μ P [] ++ [(q, .inl (cy 5, n, .inr (.inr (.inr (.inr (lRf n r))))))]) ++ va_pl ([] ++ (List.range n).map r) (vr_up (fun _ => .inr (0, [])) ((List.range n).map r) (.inl (cy 0, (n, .inl (fun _ => 0))))) = hws cy ad μ P (hmat cy q r n (fun _ _ => 0)) := by
    unfold hws hmat va_pl
    rw [List.nil_append, List.append_nil, List.map_map, List.append_assoc, List.append_assoc]
    congr 2
    show ([(q, .inl (cy 5, n, .inr (.inr (.inr (.inr (lRf n r))))))] : va_W) ++ _ = _
    rw [List.singleton_append]
    congr 1
    apply List.map_congr_left
    intro i hi
    show (r i, vr_up _ _ _ (r i)) = _
    rw [vr_up_in (List.mem_map.mpr ⟨i, hi, rfl⟩)]
  rw [show (fun i => if i < n then some (r i) else none) = lRf n r from rfl] at hP1 hD1
  rw [e3] at hP1 hD1
  exact ⟨hP1, hD1⟩
/-- a row of longs comes into being -/
theorem l_newJ (hx : p.tables.exec = Jvm.exec) (hb : c.code = cc) (E : hE l D cy ad b s) (hM : hW D cy ad b μ P T H) (hS : va_S (hA b) s.heap H locs) {n : Nat} (hn : n ≤ 8) (hc : cells + 1 ≤ R.cells) (hs : slots + 8 ≤ R.slots) (hdg : decode cc pc = .ok (.newarray .long, 2))
    (kk : ∀ (q : Nat) (H1 : Heap), hW D cy ad b μ P (T ++ [(q, .inl (cy 1, n, .inr (.inl (fun _ => 0))))]) H1 → va_S (hA b) s.heap H1 locs → W p l e R s m args below meth c H1 locs (cells + 1) (slots + 8) Q (F0 m (pc + 2) ls (.ref q :: rest))) : W p l e R s m args below meth c H locs cells slots Q (F0 m pc ls (.int (nI n) :: rest)) := by
  refine va_newa (atype := .long) (ty := .long) (a0 := (n, .inr (.inl (fun _ => 0)))) (N' := n) hx hb (show (Cond.arrayClass (newarray.typeOf .long)).before args s = true from E.kw kw_346) rfl E.1.1 hM.1 hM.2 hS (fun q h => Nat.le_trans E.2.2.1 h) (fun cA => rfl) (nI_pos (by omega)) (nI_clamp (by omega)) (by show n * 8 ≤ _; omega) hc (by omega) hdg (fun q cA H1 hK1 hP1 hD1 hS1 => ?_)
  have e1 : s.vm.findClass ("[" ++ FieldType.long.toString) = some cA := (hK1.2 6 (cA, .long) rfl).2
  have e2 : s.vm.findClass ("[" ++ FieldType.long.toString) = some (cy 1) := (E.1.1.2 1 (cy 1, .long) rfl).2
  obtain rfl : cA = cy 1 := Option.some.inj (e1.symm.trans e2)
  refine W.widen (Nat.le_refl _) (by omega) (kk q H1 ?_ hS1)
  have e3 := ht_push (cy := cy) (ad := ad) (μ := μ) (P := P) (T := T) (x := (q, .inl (cy 1, (n, .inr (.inl (fun _ => 0))))))
  rw [e3] at hP1 hD1
  exact ⟨hP1, hD1⟩
/-- a static method that knows nothing of the law's side -/
theorem h_callSC (hx : p.tables.exec = Jvm.exec) (hb : c.code = cc) (hml : c.maxLocals = ls.size) (hown : s.vm.findClass own = some m.cls) (E : hE l D cy ad b s) (hM : hW D cy ad b μ P T H) (hS : va_S (hA b) s.heap H locs) {y : MethodName} {bytes : ByteArray} {maxL n idx fr lo : Nat} {ret : Option FieldType} {rv : Option Value} {As : List Value} {st : List Value} {μ' : gM} (hy : gYS y bytes maxL ret n) (hl : gw (.methodLink own idx y))
    (hMt : Met l y [.code y bytes maxL ret] ({ frames := fr, cells := 0, slots := 0, locals := lo }) (va_Pc As (gB l gFull D cy ad (b, P ++ T) μ)) (gQ rv gFull D cy ad (b, P ++ T) μ') 0 0 (gA (b, P ++ T)))
    (hn : As.length = n) (hst : st = As.reverse ++ rest) (hroom : (rest.map fun v => v.category).sum ≤ 8) (hR : fr + 1 ≤ R.frames ∧ 8 + (maxL + 11) + lo ≤ R.locals) (hcs : cells ≤ R.cells ∧ slots ≤ R.slots) (hdg : decode cc pc = .ok (.invokestatic idx, 3))
    (kk : ∀ (H1 : Heap) (locs1 : List Loc), hW D cy ad b μ' P T H1 → va_S (hA b) s.heap H1 locs1 → W p l e R s m args below meth c H1 locs1 cells slots Q (F0 m (pc + 3) ls (rv.toList ++ rest))) : W p l e R s m args below meth c H locs cells slots Q (F0 m pc ls st) :=
  g_callS (base := (b, P ++ T)) hx hb hml hown (E.g _) hM hS hy hl hMt hn hst hroom hR hcs hdg kk
end HR2

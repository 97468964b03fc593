/-! what the law's entry gives -/
theorem tb0 {w : Cond} (hw : w ∈ k2_sels lw_privs) : w ∈ lw_tbl := by
  show w ∈ k2_sels lw_privs ++ tables_1
  simp only [tables_1, List.mem_append]; first | exact Or.inl hw | simp [hw]
theorem tb1 {w : Cond} (hw : w ∈ tables_1_1) : w ∈ lw_tbl := by
  show w ∈ k2_sels lw_privs ++ tables_1
  simp only [tables_1, List.mem_append]; first | exact Or.inl hw | simp [hw]
theorem tb2 {w : Cond} (hw : w ∈ tables_1_2) : w ∈ lw_tbl := by
  show w ∈ k2_sels lw_privs ++ tables_1
  simp only [tables_1, List.mem_append]; first | exact Or.inl hw | simp [hw]
theorem tb3 {w : Cond} (hw : w ∈ tables_1_3) : w ∈ lw_tbl := by
  show w ∈ k2_sels lw_privs ++ tables_1
  simp only [tables_1, List.mem_append]; first | exact Or.inl hw | simp [hw]
theorem tb4 {w : Cond} (hw : w ∈ tables_1_4) : w ∈ lw_tbl := by
  show w ∈ k2_sels lw_privs ++ tables_1
  simp only [tables_1, List.mem_append]; first | exact Or.inl hw | simp [hw]
theorem tb5 {w : Cond} (hw : w ∈ tables_1_5) : w ∈ lw_tbl := by
  show w ∈ k2_sels lw_privs ++ tables_1
  simp only [tables_1, List.mem_append]; first | exact Or.inl hw | simp [hw]
theorem tb6 {w : Cond} (hw : w ∈ tables_1_6) : w ∈ lw_tbl := by
  show w ∈ k2_sels lw_privs ++ tables_1
  simp only [tables_1, List.mem_append]; first | exact Or.inl hw | simp [hw]
theorem tb7 {w : Cond} (hw : w ∈ tables_1_7) : w ∈ lw_tbl := by
  show w ∈ k2_sels lw_privs ++ tables_1
  simp only [tables_1, List.mem_append]; first | exact Or.inl hw | simp [hw]
theorem arrK {args : Array Value} {s : State} {ty : FieldType} (h : (Cond.arrayClass ty).before args s = true) : ∃ (cA : ClassId) (kA : Class) (comp : ClassId), s.vm.findClass ("[" ++ ty.toString) = some cA ∧ s.vm.classes[cA]? = some kA ∧ kA.kind = .array comp ty := by
  have h2 : (Cond.arrayClass ty).value args s none s [] = some true := by
    unfold Cond.before Cond.holds at h
    exact eq_of_beq h
  simp only [Cond.value] at h2
  cases e1 : s.vm.findClass ("[" ++ ty.toString) with
  | none => rw [e1] at h2; cases h2
  | some cA =>
    rw [e1] at h2
    cases e2 : s.vm.classes[cA]? with
    | none => simp [e2] at h2
    | some kA =>
      cases e3 : kA.kind with
      | array comp t2 =>
        simp [e2, e3] at h2
        exact ⟨cA, kA, comp, rfl, e2, by rw [e3, h2]⟩
      | _ => simp [e2, e3] at h2
theorem arrK2 {args : Array Value} {s : State} {ty : FieldType} (h : (Cond.arrayClass ty).before args s = true) (hp : ∀ cA, s.vm.findClass ("[" ++ ty.toString) = some cA → va_RA s cA ty) : ∃ cA : ClassId, ArrOfT s cA ty ∧ va_RA s cA ty := by
  obtain ⟨cA, kA, comp, h1, h2, h3⟩ := arrK h
  exact ⟨cA, fun n z => ⟨fun k h => (by cases h), kA, h2, comp, h3⟩, hp cA h1⟩
theorem x_u32 (x : Int32) : Int32.ofNat x.toUInt32.toNat = x := by
  apply Int32.toBitVec_inj.mp
  show BitVec.ofNat 32 x.toBitVec.toNat = x.toBitVec
  exact BitVec.eq_of_toNat_eq (by rw [BitVec.toNat_ofNat]; exact Nat.mod_eq_of_lt x.toBitVec.isLt)
theorem T_cg {s : State} {ty : FieldType} {t n : Nat} {f g : Nat → Value} {A : Nat → Prop} {H : Heap} (h : va_T ty t n f A s H) (e : ∀ j, j < n → g j = f j) : va_T ty t n g A s H := by
  obtain ⟨cell, h1, h2, h3, h4, h5, h6, h7⟩ := h
  exact ⟨cell, h1, h2, h3, h4, h5, fun j hj => by rw [e j hj]; exact h6 j hj, h7⟩
theorem C_cg {s : State} {f g : Nat → Nat} {A : Nat → Prop} {H : Heap} (h : vb_C f A s H) (e : ∀ j, j < 256 → g (200 + j) = f j) : vb_C (fun k => g (200 + k)) A s H := by
  refine ⟨fun k hk => ?_, fun i hi => ?_⟩
  · show va_O _ (g (200 + k)) A s H
    rw [e k hk]
    exact h.1 k hk
  · show va_OF _ _ _ _ (g (200 + i)) A s H
    rw [e i hi]
    exact h.2 i hi
theorem S_cg {s : State} {len : List Nat} {byt : List (List Int32)} {k v g : Nat → Nat} {A : Nat → Prop} {H : Heap} (h : vk_S 9 len byt k v A s H) (e1 : ∀ j, j < 9 → g (470 + j) = k j) (e2 : ∀ j, j < 9 → g (480 + j) = v j) : vk_S 9 len byt (fun i => g (470 + i)) (fun i => g (480 + i)) A s H := by
  refine ⟨fun i hi => ?_, fun i j hi hj he => ?_⟩
  · show va_O _ (g (470 + i)) A s H ∧ va_OF _ _ _ _ (g (470 + i)) A s H ∧ va_OF _ _ _ (.ref (g (480 + i))) (g (470 + i)) A s H ∧ va_T .byte (g (480 + i)) _ _ A s H
    rw [e1 i hi, e2 i hi]
    exact h.1 i hi
  · exact h.2 i j hi hj (by rw [← e1 i hi, ← e1 j hj]; exact he)
section START
variable {s : State} {args : Array Value}
theorem E0 (hts : ∀ w ∈ lw_tbl, w.before args s = true) {w : Cond} (h : gw w) : w.before args s = true := hts w h.1
theorem hA_lt {s : State} : ∀ a : Nat, a < s.heap.size → ¬ hA s.heap.size a := fun a h => Nat.not_le.mpr h
set_option maxRecDepth 100000 in
theorem st_0 (hts : ∀ w ∈ lw_tbl, w.before args s = true) (hgv : (Jvm.Cond.and given_1 narrow_1).before args s = true) : ∃ t : Nat, ∀ ad : Nat → Nat, ad (100 + 0) = t → gStA 0 ad (s.heap.size, []) s s.heap := by
  have hs := flat_of_before _ hgv
  obtain ⟨t, ht, hT⟩ := va_Tof (tm := (.static "LevelNetwork" "LEAST_NUMBER" "[I")) (ty := .int) (N := 4) (f := fun j => .int (sc 0 j)) (A := hA s.heap.size) (by decide) (hs (.arrayOf (.static "LevelNetwork" "LEAST_NUMBER" "[I") .int) (by decide +kernel)) (va_eqt (hs (.eq (.length (.static "LevelNetwork" "LEAST_NUMBER" "[I")) (.int 4)) (by decide +kernel))) (fun j hj => by match j, hj with | 0, _ => exact va_eqt (hs (.eq (.elem (.static "LevelNetwork" "LEAST_NUMBER" "[I") (.int 0)) (.int 0)) (by decide +kernel)) | 1, _ => exact va_eqt (hs (.eq (.elem (.static "LevelNetwork" "LEAST_NUMBER" "[I") (.int 1)) (.int 0)) (by decide +kernel)) | 2, _ => exact va_eqt (hs (.eq (.elem (.static "LevelNetwork" "LEAST_NUMBER" "[I") (.int 2)) (.int 1)) (by decide +kernel)) | 3, _ => exact va_eqt (hs (.eq (.elem (.static "LevelNetwork" "LEAST_NUMBER" "[I") (.int 3)) (.int 1)) (by decide +kernel)) | k + 4, h9 => exact absurd h9 (by omega)) hA_lt
  refine ⟨t, fun ad e => ⟨?_, ?_⟩⟩
  · rw [e]
    exact va_Zref (hts _ (tb4 (List.mem_of_getElem? (i := 235) rfl))) (E0 hts kw_51) ht hA_lt
  · rw [e]
    exact hT
set_option maxRecDepth 100000 in
theorem st_1 (hts : ∀ w ∈ lw_tbl, w.before args s = true) (hgv : (Jvm.Cond.and given_1 narrow_1).before args s = true) : ∃ t : Nat, ∀ ad : Nat → Nat, ad (100 + 1) = t → gStA 1 ad (s.heap.size, []) s s.heap := by
  have hs := flat_of_before _ hgv
  obtain ⟨t, ht, hT⟩ := va_Tof (tm := (.static "LevelNetwork" "GREATEST_NUMBER" "[I")) (ty := .int) (N := 4) (f := fun j => .int (sc 1 j)) (A := hA s.heap.size) (by decide) (hs (.arrayOf (.static "LevelNetwork" "GREATEST_NUMBER" "[I") .int) (by decide +kernel)) (va_eqt (hs (.eq (.length (.static "LevelNetwork" "GREATEST_NUMBER" "[I")) (.int 4)) (by decide +kernel))) (fun j hj => by match j, hj with | 0, _ => exact va_eqt (hs (.eq (.elem (.static "LevelNetwork" "GREATEST_NUMBER" "[I") (.int 0)) (.int 40000)) (by decide +kernel)) | 1, _ => exact va_eqt (hs (.eq (.elem (.static "LevelNetwork" "GREATEST_NUMBER" "[I") (.int 1)) (.int 40000)) (by decide +kernel)) | 2, _ => exact va_eqt (hs (.eq (.elem (.static "LevelNetwork" "GREATEST_NUMBER" "[I") (.int 2)) (.int 100)) (by decide +kernel)) | 3, _ => exact va_eqt (hs (.eq (.elem (.static "LevelNetwork" "GREATEST_NUMBER" "[I") (.int 3)) (.int 100)) (by decide +kernel)) | k + 4, h9 => exact absurd h9 (by omega)) hA_lt
  refine ⟨t, fun ad e => ⟨?_, ?_⟩⟩
  · rw [e]
    exact va_Zref (hts _ (tb4 (List.mem_of_getElem? (i := 237) rfl))) (E0 hts kw_51) ht hA_lt
  · rw [e]
    exact hT
set_option maxRecDepth 100000 in
theorem st_2 (hts : ∀ w ∈ lw_tbl, w.before args s = true) (hgv : (Jvm.Cond.and given_1 narrow_1).before args s = true) : ∃ t : Nat, ∀ ad : Nat → Nat, ad (100 + 2) = t → gStA 2 ad (s.heap.size, []) s s.heap := by
  have hs := flat_of_before _ hgv
  obtain ⟨t, ht, hT⟩ := va_Tof (tm := (.static "LevelNetwork" "LEAST_SETTING" "[I")) (ty := .int) (N := 3) (f := fun j => .int (sc 2 j)) (A := hA s.heap.size) (by decide) (hs (.arrayOf (.static "LevelNetwork" "LEAST_SETTING" "[I") .int) (by decide +kernel)) (va_eqt (hs (.eq (.length (.static "LevelNetwork" "LEAST_SETTING" "[I")) (.int 3)) (by decide +kernel))) (fun j hj => by match j, hj with | 0, _ => exact va_eqt (hs (.eq (.elem (.static "LevelNetwork" "LEAST_SETTING" "[I") (.int 0)) (.int 0)) (by decide +kernel)) | 1, _ => exact va_eqt (hs (.eq (.elem (.static "LevelNetwork" "LEAST_SETTING" "[I") (.int 1)) (.int 1)) (by decide +kernel)) | 2, _ => exact va_eqt (hs (.eq (.elem (.static "LevelNetwork" "LEAST_SETTING" "[I") (.int 2)) (.int 0)) (by decide +kernel)) | k + 3, h9 => exact absurd h9 (by omega)) hA_lt
  refine ⟨t, fun ad e => ⟨?_, ?_⟩⟩
  · rw [e]
    exact va_Zref (hts _ (tb5 (List.mem_of_getElem? (i := 11) rfl))) (E0 hts kw_51) ht hA_lt
  · rw [e]
    exact hT
set_option maxRecDepth 100000 in
theorem st_3 (hts : ∀ w ∈ lw_tbl, w.before args s = true) (hgv : (Jvm.Cond.and given_1 narrow_1).before args s = true) : ∃ t : Nat, ∀ ad : Nat → Nat, ad (100 + 3) = t → gStA 3 ad (s.heap.size, []) s s.heap := by
  have hs := flat_of_before _ hgv
  obtain ⟨t, ht, hT⟩ := va_Tof (tm := (.static "LevelNetwork" "GREATEST_SETTING" "[I")) (ty := .int) (N := 3) (f := fun j => .int (sc 3 j)) (A := hA s.heap.size) (by decide) (hs (.arrayOf (.static "LevelNetwork" "GREATEST_SETTING" "[I") .int) (by decide +kernel)) (va_eqt (hs (.eq (.length (.static "LevelNetwork" "GREATEST_SETTING" "[I")) (.int 3)) (by decide +kernel))) (fun j hj => by match j, hj with | 0, _ => exact va_eqt (hs (.eq (.elem (.static "LevelNetwork" "GREATEST_SETTING" "[I") (.int 0)) (.int 500)) (by decide +kernel)) | 1, _ => exact va_eqt (hs (.eq (.elem (.static "LevelNetwork" "GREATEST_SETTING" "[I") (.int 1)) (.int 100)) (by decide +kernel)) | 2, _ => exact va_eqt (hs (.eq (.elem (.static "LevelNetwork" "GREATEST_SETTING" "[I") (.int 2)) (.int 800)) (by decide +kernel)) | k + 3, h9 => exact absurd h9 (by omega)) hA_lt
  refine ⟨t, fun ad e => ⟨?_, ?_⟩⟩
  · rw [e]
    exact va_Zref (hts _ (tb5 (List.mem_of_getElem? (i := 13) rfl))) (E0 hts kw_51) ht hA_lt
  · rw [e]
    exact hT
set_option maxRecDepth 100000 in
theorem st_4 (hts : ∀ w ∈ lw_tbl, w.before args s = true) (hgv : (Jvm.Cond.and given_1 narrow_1).before args s = true) : ∃ t : Nat, ∀ ad : Nat → Nat, ad (100 + 4) = t → gStA 4 ad (s.heap.size, []) s s.heap := by
  have hs := flat_of_before _ hgv
  obtain ⟨t, ht, hT⟩ := va_Tof (tm := (.static "LevelNetwork" "INITIAL_SETTING" "[I")) (ty := .int) (N := 3) (f := fun j => .int (sc 4 j)) (A := hA s.heap.size) (by decide) (hs (.arrayOf (.static "LevelNetwork" "INITIAL_SETTING" "[I") .int) (by decide +kernel)) (va_eqt (hs (.eq (.length (.static "LevelNetwork" "INITIAL_SETTING" "[I")) (.int 3)) (by decide +kernel))) (fun j hj => by match j, hj with | 0, _ => exact va_eqt (hs (.eq (.elem (.static "LevelNetwork" "INITIAL_SETTING" "[I") (.int 0)) (.int 40)) (by decide +kernel)) | 1, _ => exact va_eqt (hs (.eq (.elem (.static "LevelNetwork" "INITIAL_SETTING" "[I") (.int 1)) (.int 60)) (by decide +kernel)) | 2, _ => exact va_eqt (hs (.eq (.elem (.static "LevelNetwork" "INITIAL_SETTING" "[I") (.int 2)) (.int 20)) (by decide +kernel)) | k + 3, h9 => exact absurd h9 (by omega)) hA_lt
  refine ⟨t, fun ad e => ⟨?_, ?_⟩⟩
  · rw [e]
    exact va_Zref (hts _ (tb2 (List.mem_of_getElem? (i := 99) rfl))) (E0 hts kw_51) ht hA_lt
  · rw [e]
    exact hT
set_option maxRecDepth 100000 in
theorem st_5 (hts : ∀ w ∈ lw_tbl, w.before args s = true) (hgv : (Jvm.Cond.and given_1 narrow_1).before args s = true) : ∃ t : Nat, ∀ ad : Nat → Nat, ad (100 + 5) = t → gStA 5 ad (s.heap.size, []) s s.heap := by
  have hs := flat_of_before _ hgv
  obtain ⟨t, ht, hT⟩ := va_Tof (tm := (.static "LevelNetwork$TextReader" "LEVEL_WORD" "[C")) (ty := .char) (N := 5) (f := fun j => .int (sc 5 j)) (A := hA s.heap.size) (by decide) (hs (.arrayOf (.static "LevelNetwork$TextReader" "LEVEL_WORD" "[C") .char) (by decide +kernel)) (va_eqt (hs (.eq (.length (.static "LevelNetwork$TextReader" "LEVEL_WORD" "[C")) (.int 5)) (by decide +kernel))) (fun j hj => by match j, hj with | 0, _ => exact va_eqt (hs (.eq (.elem (.static "LevelNetwork$TextReader" "LEVEL_WORD" "[C") (.int 0)) (.int 108)) (by decide +kernel)) | 1, _ => exact va_eqt (hs (.eq (.elem (.static "LevelNetwork$TextReader" "LEVEL_WORD" "[C") (.int 1)) (.int 101)) (by decide +kernel)) | 2, _ => exact va_eqt (hs (.eq (.elem (.static "LevelNetwork$TextReader" "LEVEL_WORD" "[C") (.int 2)) (.int 118)) (by decide +kernel)) | 3, _ => exact va_eqt (hs (.eq (.elem (.static "LevelNetwork$TextReader" "LEVEL_WORD" "[C") (.int 3)) (.int 101)) (by decide +kernel)) | 4, _ => exact va_eqt (hs (.eq (.elem (.static "LevelNetwork$TextReader" "LEVEL_WORD" "[C") (.int 4)) (.int 108)) (by decide +kernel)) | k + 5, h9 => exact absurd h9 (by omega)) hA_lt
  refine ⟨t, fun ad e => ⟨?_, ?_⟩⟩
  · rw [e]
    exact va_Zref (hts _ (tb4 (List.mem_of_getElem? (i := 168) rfl))) (E0 hts kw_52) ht hA_lt
  · rw [e]
    exact hT
set_option maxRecDepth 100000 in
theorem st_6 (hts : ∀ w ∈ lw_tbl, w.before args s = true) (hgv : (Jvm.Cond.and given_1 narrow_1).before args s = true) : ∃ t : Nat, ∀ ad : Nat → Nat, ad (100 + 6) = t → gStA 6 ad (s.heap.size, []) s s.heap := by
  have hs := flat_of_before _ hgv
  obtain ⟨t, ht, hT⟩ := va_Tof (tm := (.static "LevelNetwork$TextReader" "DOWN_WORD" "[C")) (ty := .char) (N := 4) (f := fun j => .int (sc 6 j)) (A := hA s.heap.size) (by decide) (hs (.arrayOf (.static "LevelNetwork$TextReader" "DOWN_WORD" "[C") .char) (by decide +kernel)) (va_eqt (hs (.eq (.length (.static "LevelNetwork$TextReader" "DOWN_WORD" "[C")) (.int 4)) (by decide +kernel))) (fun j hj => by match j, hj with | 0, _ => exact va_eqt (hs (.eq (.elem (.static "LevelNetwork$TextReader" "DOWN_WORD" "[C") (.int 0)) (.int 100)) (by decide +kernel)) | 1, _ => exact va_eqt (hs (.eq (.elem (.static "LevelNetwork$TextReader" "DOWN_WORD" "[C") (.int 1)) (.int 111)) (by decide +kernel)) | 2, _ => exact va_eqt (hs (.eq (.elem (.static "LevelNetwork$TextReader" "DOWN_WORD" "[C") (.int 2)) (.int 119)) (by decide +kernel)) | 3, _ => exact va_eqt (hs (.eq (.elem (.static "LevelNetwork$TextReader" "DOWN_WORD" "[C") (.int 3)) (.int 110)) (by decide +kernel)) | k + 4, h9 => exact absurd h9 (by omega)) hA_lt
  refine ⟨t, fun ad e => ⟨?_, ?_⟩⟩
  · rw [e]
    exact va_Zref (hts _ (tb4 (List.mem_of_getElem? (i := 190) rfl))) (E0 hts kw_52) ht hA_lt
  · rw [e]
    exact hT
set_option maxRecDepth 100000 in
theorem st_7 (hts : ∀ w ∈ lw_tbl, w.before args s = true) (hgv : (Jvm.Cond.and given_1 narrow_1).before args s = true) : ∃ t : Nat, ∀ ad : Nat → Nat, ad (100 + 7) = t → gStA 7 ad (s.heap.size, []) s s.heap := by
  have hs := flat_of_before _ hgv
  obtain ⟨t, ht, hT⟩ := va_Tof (tm := (.static "LevelNetwork$TextReader" "POINT_WORD" "[C")) (ty := .char) (N := 5) (f := fun j => .int (sc 7 j)) (A := hA s.heap.size) (by decide) (hs (.arrayOf (.static "LevelNetwork$TextReader" "POINT_WORD" "[C") .char) (by decide +kernel)) (va_eqt (hs (.eq (.length (.static "LevelNetwork$TextReader" "POINT_WORD" "[C")) (.int 5)) (by decide +kernel))) (fun j hj => by match j, hj with | 0, _ => exact va_eqt (hs (.eq (.elem (.static "LevelNetwork$TextReader" "POINT_WORD" "[C") (.int 0)) (.int 112)) (by decide +kernel)) | 1, _ => exact va_eqt (hs (.eq (.elem (.static "LevelNetwork$TextReader" "POINT_WORD" "[C") (.int 1)) (.int 111)) (by decide +kernel)) | 2, _ => exact va_eqt (hs (.eq (.elem (.static "LevelNetwork$TextReader" "POINT_WORD" "[C") (.int 2)) (.int 105)) (by decide +kernel)) | 3, _ => exact va_eqt (hs (.eq (.elem (.static "LevelNetwork$TextReader" "POINT_WORD" "[C") (.int 3)) (.int 110)) (by decide +kernel)) | 4, _ => exact va_eqt (hs (.eq (.elem (.static "LevelNetwork$TextReader" "POINT_WORD" "[C") (.int 4)) (.int 116)) (by decide +kernel)) | k + 5, h9 => exact absurd h9 (by omega)) hA_lt
  refine ⟨t, fun ad e => ⟨?_, ?_⟩⟩
  · rw [e]
    exact va_Zref (hts _ (tb4 (List.mem_of_getElem? (i := 192) rfl))) (E0 hts kw_52) ht hA_lt
  · rw [e]
    exact hT
set_option maxRecDepth 100000 in
theorem st_8 (hts : ∀ w ∈ lw_tbl, w.before args s = true) (hgv : (Jvm.Cond.and given_1 narrow_1).before args s = true) : ∃ t : Nat, ∀ ad : Nat → Nat, ad (100 + 8) = t → gStA 8 ad (s.heap.size, []) s s.heap := by
  have hs := flat_of_before _ hgv
  obtain ⟨t, ht, hT⟩ := va_Tof (tm := (.static "LevelNetwork$TextReader" "LINE_WORD" "[C")) (ty := .char) (N := 4) (f := fun j => .int (sc 8 j)) (A := hA s.heap.size) (by decide) (hs (.arrayOf (.static "LevelNetwork$TextReader" "LINE_WORD" "[C") .char) (by decide +kernel)) (va_eqt (hs (.eq (.length (.static "LevelNetwork$TextReader" "LINE_WORD" "[C")) (.int 4)) (by decide +kernel))) (fun j hj => by match j, hj with | 0, _ => exact va_eqt (hs (.eq (.elem (.static "LevelNetwork$TextReader" "LINE_WORD" "[C") (.int 0)) (.int 108)) (by decide +kernel)) | 1, _ => exact va_eqt (hs (.eq (.elem (.static "LevelNetwork$TextReader" "LINE_WORD" "[C") (.int 1)) (.int 105)) (by decide +kernel)) | 2, _ => exact va_eqt (hs (.eq (.elem (.static "LevelNetwork$TextReader" "LINE_WORD" "[C") (.int 2)) (.int 110)) (by decide +kernel)) | 3, _ => exact va_eqt (hs (.eq (.elem (.static "LevelNetwork$TextReader" "LINE_WORD" "[C") (.int 3)) (.int 101)) (by decide +kernel)) | k + 4, h9 => exact absurd h9 (by omega)) hA_lt
  refine ⟨t, fun ad e => ⟨?_, ?_⟩⟩
  · rw [e]
    exact va_Zref (hts _ (tb4 (List.mem_of_getElem? (i := 194) rfl))) (E0 hts kw_52) ht hA_lt
  · rw [e]
    exact hT
set_option maxRecDepth 100000 in
theorem st_9 (hts : ∀ w ∈ lw_tbl, w.before args s = true) (hgv : (Jvm.Cond.and given_1 narrow_1).before args s = true) : ∃ t : Nat, ∀ ad : Nat → Nat, ad (100 + 9) = t → gStA 9 ad (s.heap.size, []) s s.heap := by
  have hs := flat_of_before _ hgv
  obtain ⟨t, ht, hT⟩ := va_Tof (tm := (.static "LevelNetwork$TextReader" "TEST_WORD" "[C")) (ty := .char) (N := 4) (f := fun j => .int (sc 9 j)) (A := hA s.heap.size) (by decide) (hs (.arrayOf (.static "LevelNetwork$TextReader" "TEST_WORD" "[C") .char) (by decide +kernel)) (va_eqt (hs (.eq (.length (.static "LevelNetwork$TextReader" "TEST_WORD" "[C")) (.int 4)) (by decide +kernel))) (fun j hj => by match j, hj with | 0, _ => exact va_eqt (hs (.eq (.elem (.static "LevelNetwork$TextReader" "TEST_WORD" "[C") (.int 0)) (.int 116)) (by decide +kernel)) | 1, _ => exact va_eqt (hs (.eq (.elem (.static "LevelNetwork$TextReader" "TEST_WORD" "[C") (.int 1)) (.int 101)) (by decide +kernel)) | 2, _ => exact va_eqt (hs (.eq (.elem (.static "LevelNetwork$TextReader" "TEST_WORD" "[C") (.int 2)) (.int 115)) (by decide +kernel)) | 3, _ => exact va_eqt (hs (.eq (.elem (.static "LevelNetwork$TextReader" "TEST_WORD" "[C") (.int 3)) (.int 116)) (by decide +kernel)) | k + 4, h9 => exact absurd h9 (by omega)) hA_lt
  refine ⟨t, fun ad e => ⟨?_, ?_⟩⟩
  · rw [e]
    exact va_Zref (hts _ (tb4 (List.mem_of_getElem? (i := 196) rfl))) (E0 hts kw_52) ht hA_lt
  · rw [e]
    exact hT
set_option maxRecDepth 100000 in
theorem st_10 (hts : ∀ w ∈ lw_tbl, w.before args s = true) (hgv : (Jvm.Cond.and given_1 narrow_1).before args s = true) : ∃ t : Nat, ∀ ad : Nat → Nat, ad (100 + 10) = t → gStA 10 ad (s.heap.size, []) s s.heap := by
  have hs := flat_of_before _ hgv
  obtain ⟨t, ht, hT⟩ := va_Tof (tm := (.static "LevelNetwork$TextReader" "SET_WORD" "[C")) (ty := .char) (N := 3) (f := fun j => .int (sc 10 j)) (A := hA s.heap.size) (by decide) (hs (.arrayOf (.static "LevelNetwork$TextReader" "SET_WORD" "[C") .char) (by decide +kernel)) (va_eqt (hs (.eq (.length (.static "LevelNetwork$TextReader" "SET_WORD" "[C")) (.int 3)) (by decide +kernel))) (fun j hj => by match j, hj with | 0, _ => exact va_eqt (hs (.eq (.elem (.static "LevelNetwork$TextReader" "SET_WORD" "[C") (.int 0)) (.int 115)) (by decide +kernel)) | 1, _ => exact va_eqt (hs (.eq (.elem (.static "LevelNetwork$TextReader" "SET_WORD" "[C") (.int 1)) (.int 101)) (by decide +kernel)) | 2, _ => exact va_eqt (hs (.eq (.elem (.static "LevelNetwork$TextReader" "SET_WORD" "[C") (.int 2)) (.int 116)) (by decide +kernel)) | k + 3, h9 => exact absurd h9 (by omega)) hA_lt
  refine ⟨t, fun ad e => ⟨?_, ?_⟩⟩
  · rw [e]
    exact va_Zref (hts _ (tb4 (List.mem_of_getElem? (i := 198) rfl))) (E0 hts kw_52) ht hA_lt
  · rw [e]
    exact hT
set_option maxRecDepth 100000 in
theorem st_11 (hts : ∀ w ∈ lw_tbl, w.before args s = true) (hgv : (Jvm.Cond.and given_1 narrow_1).before args s = true) : ∃ t : Nat, ∀ ad : Nat → Nat, ad (100 + 11) = t → gStA 11 ad (s.heap.size, []) s s.heap := by
  have hs := flat_of_before _ hgv
  obtain ⟨t, ht, hT⟩ := va_Tof (tm := (.static "LevelNetwork$TextReader" "TOLERANCE_WORD" "[C")) (ty := .char) (N := 9) (f := fun j => .int (sc 11 j)) (A := hA s.heap.size) (by decide) (hs (.arrayOf (.static "LevelNetwork$TextReader" "TOLERANCE_WORD" "[C") .char) (by decide +kernel)) (va_eqt (hs (.eq (.length (.static "LevelNetwork$TextReader" "TOLERANCE_WORD" "[C")) (.int 9)) (by decide +kernel))) (fun j hj => by match j, hj with | 0, _ => exact va_eqt (hs (.eq (.elem (.static "LevelNetwork$TextReader" "TOLERANCE_WORD" "[C") (.int 0)) (.int 116)) (by decide +kernel)) | 1, _ => exact va_eqt (hs (.eq (.elem (.static "LevelNetwork$TextReader" "TOLERANCE_WORD" "[C") (.int 1)) (.int 111)) (by decide +kernel)) | 2, _ => exact va_eqt (hs (.eq (.elem (.static "LevelNetwork$TextReader" "TOLERANCE_WORD" "[C") (.int 2)) (.int 108)) (by decide +kernel)) | 3, _ => exact va_eqt (hs (.eq (.elem (.static "LevelNetwork$TextReader" "TOLERANCE_WORD" "[C") (.int 3)) (.int 101)) (by decide +kernel)) | 4, _ => exact va_eqt (hs (.eq (.elem (.static "LevelNetwork$TextReader" "TOLERANCE_WORD" "[C") (.int 4)) (.int 114)) (by decide +kernel)) | 5, _ => exact va_eqt (hs (.eq (.elem (.static "LevelNetwork$TextReader" "TOLERANCE_WORD" "[C") (.int 5)) (.int 97)) (by decide +kernel)) | 6, _ => exact va_eqt (hs (.eq (.elem (.static "LevelNetwork$TextReader" "TOLERANCE_WORD" "[C") (.int 6)) (.int 110)) (by decide +kernel)) | 7, _ => exact va_eqt (hs (.eq (.elem (.static "LevelNetwork$TextReader" "TOLERANCE_WORD" "[C") (.int 7)) (.int 99)) (by decide +kernel)) | 8, _ => exact va_eqt (hs (.eq (.elem (.static "LevelNetwork$TextReader" "TOLERANCE_WORD" "[C") (.int 8)) (.int 101)) (by decide +kernel)) | k + 9, h9 => exact absurd h9 (by omega)) hA_lt
  refine ⟨t, fun ad e => ⟨?_, ?_⟩⟩
  · rw [e]
    exact va_Zref (hts _ (tb5 (List.mem_of_getElem? (i := 7) rfl))) (E0 hts kw_52) ht hA_lt
  · rw [e]
    exact hT
set_option maxRecDepth 100000 in
theorem st_12 (hts : ∀ w ∈ lw_tbl, w.before args s = true) (hgv : (Jvm.Cond.and given_1 narrow_1).before args s = true) : ∃ t : Nat, ∀ ad : Nat → Nat, ad (100 + 12) = t → gStA 12 ad (s.heap.size, []) s s.heap := by
  have hs := flat_of_before _ hgv
  obtain ⟨t, ht, hT⟩ := va_Tof (tm := (.static "LevelNetwork$TextReader" "SIGHT_WORD" "[C")) (ty := .char) (N := 5) (f := fun j => .int (sc 12 j)) (A := hA s.heap.size) (by decide) (hs (.arrayOf (.static "LevelNetwork$TextReader" "SIGHT_WORD" "[C") .char) (by decide +kernel)) (va_eqt (hs (.eq (.length (.static "LevelNetwork$TextReader" "SIGHT_WORD" "[C")) (.int 5)) (by decide +kernel))) (fun j hj => by match j, hj with | 0, _ => exact va_eqt (hs (.eq (.elem (.static "LevelNetwork$TextReader" "SIGHT_WORD" "[C") (.int 0)) (.int 115)) (by decide +kernel)) | 1, _ => exact va_eqt (hs (.eq (.elem (.static "LevelNetwork$TextReader" "SIGHT_WORD" "[C") (.int 1)) (.int 105)) (by decide +kernel)) | 2, _ => exact va_eqt (hs (.eq (.elem (.static "LevelNetwork$TextReader" "SIGHT_WORD" "[C") (.int 2)) (.int 103)) (by decide +kernel)) | 3, _ => exact va_eqt (hs (.eq (.elem (.static "LevelNetwork$TextReader" "SIGHT_WORD" "[C") (.int 3)) (.int 104)) (by decide +kernel)) | 4, _ => exact va_eqt (hs (.eq (.elem (.static "LevelNetwork$TextReader" "SIGHT_WORD" "[C") (.int 4)) (.int 116)) (by decide +kernel)) | k + 5, h9 => exact absurd h9 (by omega)) hA_lt
  refine ⟨t, fun ad e => ⟨?_, ?_⟩⟩
  · rw [e]
    exact va_Zref (hts _ (tb4 (List.mem_of_getElem? (i := 200) rfl))) (E0 hts kw_52) ht hA_lt
  · rw [e]
    exact hT
set_option maxRecDepth 100000 in
theorem st_13 (hts : ∀ w ∈ lw_tbl, w.before args s = true) (hgv : (Jvm.Cond.and given_1 narrow_1).before args s = true) : ∃ t : Nat, ∀ ad : Nat → Nat, ad (100 + 13) = t → gStA 13 ad (s.heap.size, []) s s.heap := by
  have hs := flat_of_before _ hgv
  obtain ⟨t, ht, hT⟩ := va_Tof (tm := (.static "LevelNetwork$TextReader" "BALANCE_WORD" "[C")) (ty := .char) (N := 7) (f := fun j => .int (sc 13 j)) (A := hA s.heap.size) (by decide) (hs (.arrayOf (.static "LevelNetwork$TextReader" "BALANCE_WORD" "[C") .char) (by decide +kernel)) (va_eqt (hs (.eq (.length (.static "LevelNetwork$TextReader" "BALANCE_WORD" "[C")) (.int 7)) (by decide +kernel))) (fun j hj => by match j, hj with | 0, _ => exact va_eqt (hs (.eq (.elem (.static "LevelNetwork$TextReader" "BALANCE_WORD" "[C") (.int 0)) (.int 98)) (by decide +kernel)) | 1, _ => exact va_eqt (hs (.eq (.elem (.static "LevelNetwork$TextReader" "BALANCE_WORD" "[C") (.int 1)) (.int 97)) (by decide +kernel)) | 2, _ => exact va_eqt (hs (.eq (.elem (.static "LevelNetwork$TextReader" "BALANCE_WORD" "[C") (.int 2)) (.int 108)) (by decide +kernel)) | 3, _ => exact va_eqt (hs (.eq (.elem (.static "LevelNetwork$TextReader" "BALANCE_WORD" "[C") (.int 3)) (.int 97)) (by decide +kernel)) | 4, _ => exact va_eqt (hs (.eq (.elem (.static "LevelNetwork$TextReader" "BALANCE_WORD" "[C") (.int 4)) (.int 110)) (by decide +kernel)) | 5, _ => exact va_eqt (hs (.eq (.elem (.static "LevelNetwork$TextReader" "BALANCE_WORD" "[C") (.int 5)) (.int 99)) (by decide +kernel)) | 6, _ => exact va_eqt (hs (.eq (.elem (.static "LevelNetwork$TextReader" "BALANCE_WORD" "[C") (.int 6)) (.int 101)) (by decide +kernel)) | k + 7, h9 => exact absurd h9 (by omega)) hA_lt
  refine ⟨t, fun ad e => ⟨?_, ?_⟩⟩
  · rw [e]
    exact va_Zref (hts _ (tb5 (List.mem_of_getElem? (i := 9) rfl))) (E0 hts kw_52) ht hA_lt
  · rw [e]
    exact hT
theorem arrO {n : String} (h : (Cond.arrayOver (.object n)).before args s = true) : ∃ cA : ClassId, ArrOfT s cA (.object n) ∧ va_RA s cA (.object n) := by
  obtain ⟨comp, c, k, h1, -, h2, h3, h4⟩ := Cond.arrayOver_spec (show (Cond.arrayOver (.object n)).holds args s none s [] = true from h)
  exact ⟨c, fun n z => ⟨fun k h => (by cases h), k, h2, comp, h3⟩, k, comp, h2, h3, h1, h4⟩
theorem arrI (h : (Cond.arrayOver (.array .int)).before args s = true) : ∃ cA : ClassId, ArrOfT s cA (.array .int) ∧ va_RA s cA (.array .int) := by
  have h0 : (Cond.arrayOver (.array .int)).holds args s none s [] = true := h
  simp only [Cond.holds, Cond.value, beq_iff_eq, Option.bind_eq_some_iff, Option.map_eq_some_iff] at h0
  obtain ⟨comp, hc, c, hi, k, hk, hb⟩ := h0
  have hp := (Array.findIdx?_eq_some_iff_getElem.mp hi).2.1
  rw [(Array.getElem?_eq_some_iff.mp hk).2] at hp
  cases hkind : k.kind with
  | array component ty =>
    rw [hkind] at hb
    simp only [Bool.and_eq_true, decide_eq_true_eq] at hb
    exact ⟨c, fun n z => ⟨fun k h => (by cases h), k, hk, component, by rw [hkind, hb.1]⟩, hb.2⟩
  | _ => rw [hkind] at hb; cases hb
set_option maxRecDepth 100000 in
theorem st_K (hts : ∀ w ∈ lw_tbl, w.before args s = true) : ∃ (D : va_G) (cy : Nat → ClassId), va_K D vwCl (gT cy) s := by
  obtain ⟨cX0, iX0, kX0⟩ := u_known (C := RX0) (T := TX0) (N := 8) (n := 8) hts (fun w hw => (gC_X0.2.1 w hw).1) (E0 hts kw_132)
  obtain ⟨cX1, iX1, kX1⟩ := u_known (C := RX1) (T := TX1) (N := 7) (n := 7) hts (fun w hw => (gC_X1.2.1 w hw).1) (E0 hts kw_348)
  obtain ⟨cX2, iX2, kX2⟩ := u_known (C := RX2) (T := TX2) (N := 10) (n := 10) hts (fun w hw => (gC_X2.2.1 w hw).1) (E0 hts kw_232)
  obtain ⟨cX3, iX3, kX3⟩ := u_known (C := RX3) (T := TX3) (N := 17) (n := 17) hts (fun w hw => (gC_X3.2.1 w hw).1) (E0 hts kw_378)
  obtain ⟨cX4, iX4, kX4⟩ := u_known (C := RX4) (T := TX4) (N := 10) (n := 10) hts (fun w hw => (gC_X4.2.1 w hw).1) (E0 hts kw_169)
  obtain ⟨cX5, iX5, kX5⟩ := u_known (C := RX5) (T := TX5) (N := 7) (n := 7) hts (fun w hw => (gC_X5.2.1 w hw).1) (E0 hts kw_238)
  obtain ⟨cX6, iX6, kX6⟩ := u_known (C := RX6) (T := TX6) (N := 4) (n := 4) hts (fun w hw => (gC_X6.2.1 w hw).1) (E0 hts kw_209)
  obtain ⟨cX7, iX7, kX7⟩ := u_known (C := RX7) (T := TX7) (N := 8) (n := 8) hts (fun w hw => (gC_X7.2.1 w hw).1) (E0 hts kw_89)
  obtain ⟨cX8, iX8, kX8⟩ := u_known (C := RX8) (T := TX8) (N := 12) (n := 12) hts (fun w hw => (gC_X8.2.1 w hw).1) (E0 hts kw_156)
  obtain ⟨cJ0, iJ0, kJ0⟩ := u_known (C := RJ0) (T := TJ0) (N := 4) (n := 4) hts (fun w hw => (gC_J0.2.1 w hw).1) (E0 hts kw_730)
  obtain ⟨cJ4, iJ4, kJ4⟩ := u_known (C := RJ4) (T := TJ4) (N := 4) (n := 4) hts (fun w hw => (gC_J4.2.1 w hw).1) (E0 hts kw_550)
  obtain ⟨cJ6, iJ6, kJ6⟩ := u_known (C := RJ6) (T := TJ6) (N := 1) (n := 1) hts (fun w hw => (gC_J6.2.1 w hw).1) (E0 hts kw_1416)
  obtain ⟨cJx35411, iJx35411, kJx35411⟩ := u_known (C := RJx35411) (T := TJx35411) (N := 4) (n := 4) hts (fun w hw => (gC_Jx35411.2.1 w hw).1) (E0 hts kw_1155)
  obtain ⟨cJx4a65c, iJx4a65c, kJx4a65c⟩ := u_known (C := RJx4a65c) (T := TJx4a65c) (N := 3) (n := 3) hts (fun w hw => (gC_Jx4a65c.2.1 w hw).1) (E0 hts kw_512)
  obtain ⟨cX10, iX10, kX10⟩ := u_known (C := RX10) (T := TX10) (N := 3) (n := 3) hts (fun w hw => (gC_X10.2.1 w hw).1) (E0 hts kw_1390)
  obtain ⟨a0, p0, q0⟩ := arrK2 (E0 hts kw_230) (fun cA h => h)
  obtain ⟨a1, p1, q1⟩ := arrK2 (E0 hts kw_346) (fun cA h => h)
  obtain ⟨a2, p2, q2⟩ := arrK2 (E0 hts kw_207) (fun cA h => h)
  obtain ⟨a3, p3, q3⟩ := arrK2 (E0 hts kw_376) (fun cA h => h)
  obtain ⟨a4, p4, q4⟩ := arrO (n := "java/lang/Object") (hts _ (tb4 (List.mem_of_getElem? (i := 94) rfl)))
  obtain ⟨a5, p5, q5⟩ := arrI (hts _ (tb3 (List.mem_of_getElem? (i := 19) rfl)))
  refine ⟨(fun k => if k = 0 then cX0 else if k = 1 then cX1 else if k = 2 then cX2 else if k = 3 then cX3 else if k = 4 then cX4 else if k = 5 then cX5 else if k = 6 then cX6 else if k = 7 then cX7 else if k = 8 then cX8 else if k = 9 then cJ0 else if k = 10 then cJ4 else if k = 11 then cJ6 else if k = 12 then cJx35411 else if k = 13 then cJx4a65c else cX10, fun k => if k = 0 then iX0 else if k = 1 then iX1 else if k = 2 then iX2 else if k = 3 then iX3 else if k = 4 then iX4 else if k = 5 then iX5 else if k = 6 then iX6 else if k = 7 then iX7 else if k = 8 then iX8 else if k = 9 then iJ0 else if k = 10 then iJ4 else if k = 11 then iJ6 else if k = 12 then iJx35411 else if k = 13 then iJx4a65c else iX10), fun k => if k = 0 then a0 else if k = 1 then a1 else if k = 2 then a2 else if k = 3 then a3 else if k = 4 then a4 else a5, ?_, ?_⟩
  · intro k q hq
    match k, hq with
    | 0, hq => cases hq; exact kX0
    | 1, hq => cases hq; exact kX1
    | 2, hq => cases hq; exact kX2
    | 3, hq => cases hq; exact kX3
    | 4, hq => cases hq; exact kX4
    | 5, hq => cases hq; exact kX5
    | 6, hq => cases hq; exact kX6
    | 7, hq => cases hq; exact kX7
    | 8, hq => cases hq; exact kX8
    | 9, hq => cases hq; exact kJ0
    | 10, hq => cases hq; exact kJ4
    | 11, hq => cases hq; exact kJ6
    | 12, hq => cases hq; exact kJx35411
    | 13, hq => cases hq; exact kJx4a65c
    | 14, hq => cases hq; exact kX10
    | k + 15, hq => simp [vwCl] at hq
  · intro k q hq
    match k, hq with
    | 0, hq => cases hq; exact ⟨p0, q0⟩
    | 1, hq => cases hq; exact ⟨p1, q1⟩
    | 2, hq => cases hq; exact ⟨p2, q2⟩
    | 3, hq => cases hq; exact ⟨p3, q3⟩
    | 4, hq => cases hq; exact ⟨p4, q4⟩
    | 5, hq => cases hq; exact ⟨p5, q5⟩
    | k + 6, hq => simp [gT] at hq
set_option maxRecDepth 100000 in
theorem st_N (hts : ∀ w ∈ lw_tbl, w.before args s = true) : gNest s :=
  ⟨va_tabs (A := args) (A' := #[]) (u := s) (U := s) rfl rfl (hts _ (tb5 (List.mem_of_getElem? (i := 215) rfl))), va_tabs (A := args) (A' := #[]) (u := s) (U := s) rfl rfl (hts _ (tb2 (List.mem_of_getElem? (i := 98) rfl))), va_tabs (A := args) (A' := #[]) (u := s) (U := s) rfl rfl (hts _ (tb4 (List.mem_of_getElem? (i := 234) rfl))), va_tabs (A := args) (A' := #[]) (u := s) (U := s) rfl rfl (hts _ (tb4 (List.mem_of_getElem? (i := 236) rfl))), va_tabs (A := args) (A' := #[]) (u := s) (U := s) rfl rfl (hts _ (tb5 (List.mem_of_getElem? (i := 10) rfl))), va_tabs (A := args) (A' := #[]) (u := s) (U := s) rfl rfl (hts _ (tb5 (List.mem_of_getElem? (i := 12) rfl)))⟩
set_option maxRecDepth 100000 in
theorem st_hN (hts : ∀ w ∈ lw_tbl, w.before args s = true) : hN s := by
  refine ⟨fun q hq => ?_, fun q hq => ?_, fun q hq => ?_, fun q hq => ?_, ?_, ?_⟩
  · simp only [hFl, List.mem_cons, List.not_mem_nil, or_false] at hq
    rcases hq with rfl | rfl
    · exact va_Fw.of (A := args) (hts _ (tb5 (List.mem_of_getElem? (i := 167) rfl))) (hts _ (tb5 (List.mem_of_getElem? (i := 166) rfl))) (hts _ (tb5 (List.mem_of_getElem? (i := 172) rfl))) (hts _ (tb5 (List.mem_of_getElem? (i := 170) rfl))) (hts _ (tb5 (List.mem_of_getElem? (i := 168) rfl)))
    · exact va_Fw.of (A := args) (hts _ (tb5 (List.mem_of_getElem? (i := 177) rfl))) (hts _ (tb5 (List.mem_of_getElem? (i := 176) rfl))) (hts _ (tb5 (List.mem_of_getElem? (i := 181) rfl))) (hts _ (tb5 (List.mem_of_getElem? (i := 179) rfl))) (hts _ (tb5 (List.mem_of_getElem? (i := 168) rfl)))
  · simp only [hNf, List.mem_cons, List.not_mem_nil, or_false] at hq
    rcases hq with rfl | rfl | rfl
    · exact va_tabs (A := args) (A' := #[]) (u := s) (U := s) rfl rfl (hts _ (tb2 (List.mem_of_getElem? (i := 238) rfl)))
    · exact va_tabs (A := args) (A' := #[]) (u := s) (U := s) rfl rfl (hts _ (tb5 (List.mem_of_getElem? (i := 15) rfl)))
    · exact va_tabs (A := args) (A' := #[]) (u := s) (U := s) rfl rfl (hts _ (tb5 (List.mem_of_getElem? (i := 27) rfl)))
  · simp only [hNm, List.mem_cons, List.not_mem_nil, or_false] at hq
    rcases hq with rfl | rfl | rfl | rfl | rfl | rfl | rfl | rfl
    · exact va_tabs (A := args) (A' := #[]) (u := s) (U := s) rfl rfl (hts _ (tb3 (List.mem_of_getElem? (i := 11) rfl)))
    · exact va_tabs (A := args) (A' := #[]) (u := s) (U := s) rfl rfl (hts _ (tb3 (List.mem_of_getElem? (i := 14) rfl)))
    · exact va_tabs (A := args) (A' := #[]) (u := s) (U := s) rfl rfl (hts _ (tb1 (List.mem_of_getElem? (i := 121) rfl)))
    · exact va_tabs (A := args) (A' := #[]) (u := s) (U := s) rfl rfl (hts _ (tb1 (List.mem_of_getElem? (i := 161) rfl)))
    · exact va_tabs (A := args) (A' := #[]) (u := s) (U := s) rfl rfl (hts _ (tb1 (List.mem_of_getElem? (i := 184) rfl)))
    · exact va_tabs (A := args) (A' := #[]) (u := s) (U := s) rfl rfl (hts _ (tb1 (List.mem_of_getElem? (i := 190) rfl)))
    · exact va_tabs (A := args) (A' := #[]) (u := s) (U := s) rfl rfl (hts _ (tb2 (List.mem_of_getElem? (i := 24) rfl)))
    · exact va_tabs (A := args) (A' := #[]) (u := s) (U := s) rfl rfl (hts _ (tb2 (List.mem_of_getElem? (i := 60) rfl)))
  · simp only [hNc, List.mem_cons, List.not_mem_nil, or_false] at hq
    rcases hq with rfl | rfl | rfl | rfl | rfl
    · exact va_tabs (A := args) (A' := #[]) (u := s) (U := s) rfl rfl (hts _ (tb7 (List.mem_of_getElem? (i := 72) rfl)))
    · exact va_tabs (A := args) (A' := #[]) (u := s) (U := s) rfl rfl (hts _ (tb7 (List.mem_of_getElem? (i := 82) rfl)))
    · exact va_tabs (A := args) (A' := #[]) (u := s) (U := s) rfl rfl (hts _ (tb7 (List.mem_of_getElem? (i := 93) rfl)))
    · exact va_tabs (A := args) (A' := #[]) (u := s) (U := s) rfl rfl (hts _ (tb7 (List.mem_of_getElem? (i := 92) rfl)))
    · exact va_tabs (A := args) (A' := #[]) (u := s) (U := s) rfl rfl (hts _ (tb7 (List.mem_of_getElem? (i := 97) rfl)))
  · exact (hts _ (tb3 (List.mem_of_getElem? (i := 19) rfl)) : _)
  · exact va_AO.of (A := args) (hts _ (tb4 (List.mem_of_getElem? (i := 94) rfl)))
theorem sel_priv {C : String} {y y9 : MethodName} (hcls : y9.cls = y.cls) (hsel : (Cond.selects C y9 y9).before args s = true) (hpriv : (Cond.privateMethod y).before args s = true) (hinst : (Cond.instanceMethod y).before args s = true) (hy : y.cls ≠ "java/lang/invoke/MethodHandle" ∧ y.cls ≠ "java/lang/invoke/VarHandle") : (Cond.selects C y y).before args s = true := by
  obtain ⟨mk, methM, hnamed, hmethM, -, -⟩ := Cond.instanceMethod_spec hinst
  obtain ⟨cC, r2, m2, hC, -, q3, -, kP, hkP, hkPi⟩ := Cond.selects_spec hsel
  have h1 := findClass_of_methodNamed q3
  have h2 := findClass_of_methodNamed hnamed
  rw [hcls] at h1
  have e : m2.cls = mk.cls := Option.some.inj (h1.symm.trans h2)
  rw [e] at hkP
  have hfound : s.methodFound? y.cls y.name y.desc = some mk := State.methodFound?_of_named hnamed hy
  have hsel : selectMethod {} s.vm cC mk = .method mk := selectMethod_private hmethM (Cond.privateMethod_at hpriv mk methM hnamed hmethM)
  simp only [Cond.before, Cond.holds, Cond.value, hC, hfound, hnamed, hsel, hkP]
  simp; exact hkPi
set_option maxRecDepth 100000 in
theorem st_P (hts : ∀ w ∈ lw_tbl, w.before args s = true) : ∀ y ∈ hPv, va_Nw (.selects "java/lang/StringBuilder" y y) s := by
  intro y hy
  simp only [hPv, List.mem_cons, List.not_mem_nil, or_false] at hy
  rcases hy with rfl | rfl | rfl | rfl
  · exact va_tabs (A := args) (A' := #[]) (u := s) (U := s) rfl rfl (sel_priv (y9 := yJ5_isLatin1_aae02) rfl (E0 hts kw_628) (hts _ (tb3 (List.mem_of_getElem? (i := 64) rfl))) (E0 hts kw_594) ⟨by decide +kernel, by decide +kernel⟩)
  · exact va_tabs (A := args) (A' := #[]) (u := s) (U := s) rfl rfl (sel_priv (y9 := yJ5_isLatin1_aae02) rfl (E0 hts kw_628) (hts _ (tb3 (List.mem_of_getElem? (i := 68) rfl))) (E0 hts kw_598) ⟨by decide +kernel, by decide +kernel⟩)
  · exact va_tabs (A := args) (A' := #[]) (u := s) (U := s) rfl rfl (sel_priv (y9 := yJ5_isLatin1_aae02) rfl (E0 hts kw_628) (hts _ (tb3 (List.mem_of_getElem? (i := 137) rfl))) (E0 hts kw_667) ⟨by decide +kernel, by decide +kernel⟩)
  · exact va_tabs (A := args) (A' := #[]) (u := s) (U := s) rfl rfl (sel_priv (y9 := yJ5_isLatin1_aae02) rfl (E0 hts kw_628) (hts _ (tb3 (List.mem_of_getElem? (i := 141) rfl))) (E0 hts kw_671) ⟨by decide +kernel, by decide +kernel⟩)
def sTm (i : Nat) : Term := .string "LevelNetworkLaw$Net" ((sAt i).1)
set_option maxRecDepth 100000 in
theorem st_S (hts : ∀ w ∈ lw_tbl, w.before args s = true) (hgv : (Jvm.Cond.and given_1 narrow_1).before args s = true) : ∃ adK adV : Nat → Nat, vk_S 9 (sTab.map (fun q => q.2.2.length)) (sTab.map (fun q => q.2.2)) adK adV (hA s.heap.size) s s.heap ∧ ∀ i : Nat, i < 9 → (sTm i).eval args s none [] s = some (.ref (adK i)) := by
  have hs := flat_of_before _ hgv
  refine vk_Sof (tm := sTm) (by decide) (fun i hi => by match i, hi with | 0, _ => exact hs (.exactly (.string "LevelNetworkLaw$Net" 65) "java/lang/String") (by decide +kernel) | 1, _ => exact hs (.exactly (.string "LevelNetworkLaw$Net" 74) "java/lang/String") (by decide +kernel) | 2, _ => exact hs (.exactly (.string "LevelNetworkLaw$Net" 80) "java/lang/String") (by decide +kernel) | 3, _ => exact hs (.exactly (.string "LevelNetworkLaw$Net" 85) "java/lang/String") (by decide +kernel) | 4, _ => exact hs (.exactly (.string "LevelNetworkLaw$Net" 93) "java/lang/String") (by decide +kernel) | 5, _ => exact hs (.exactly (.string "LevelNetworkLaw$Net" 96) "java/lang/String") (by decide +kernel) | 6, _ => exact hs (.exactly (.string "LevelNetworkLaw$Net" 123) "java/lang/String") (by decide +kernel) | 7, _ => exact hs (.exactly (.string "LevelNetworkLaw$Net" 125) "java/lang/String") (by decide +kernel) | 8, _ => exact hs (.exactly (.string "LevelNetworkLaw$Net" 127) "java/lang/String") (by decide +kernel) | k + 9, h9 => exact absurd h9 (by omega)) (fun i hi => by match i, hi with | 0, _ => exact hs (.eq (.field (.string "LevelNetworkLaw$Net" 65) "java/lang/String" "coder" "B") (.int 0)) (by decide +kernel) | 1, _ => exact hs (.eq (.field (.string "LevelNetworkLaw$Net" 74) "java/lang/String" "coder" "B") (.int 0)) (by decide +kernel) | 2, _ => exact hs (.eq (.field (.string "LevelNetworkLaw$Net" 80) "java/lang/String" "coder" "B") (.int 0)) (by decide +kernel) | 3, _ => exact hs (.eq (.field (.string "LevelNetworkLaw$Net" 85) "java/lang/String" "coder" "B") (.int 0)) (by decide +kernel) | 4, _ => exact hs (.eq (.field (.string "LevelNetworkLaw$Net" 93) "java/lang/String" "coder" "B") (.int 0)) (by decide +kernel) | 5, _ => exact hs (.eq (.field (.string "LevelNetworkLaw$Net" 96) "java/lang/String" "coder" "B") (.int 0)) (by decide +kernel) | 6, _ => exact hs (.eq (.field (.string "LevelNetworkLaw$Net" 123) "java/lang/String" "coder" "B") (.int 0)) (by decide +kernel) | 7, _ => exact hs (.eq (.field (.string "LevelNetworkLaw$Net" 125) "java/lang/String" "coder" "B") (.int 0)) (by decide +kernel) | 8, _ => exact hs (.eq (.field (.string "LevelNetworkLaw$Net" 127) "java/lang/String" "coder" "B") (.int 0)) (by decide +kernel) | k + 9, h9 => exact absurd h9 (by omega)) (fun i hi => by match i, hi with | 0, _ => exact hs (.arrayOf (.field (.string "LevelNetworkLaw$Net" 65) "java/lang/String" "value" "[B") .byte) (by decide +kernel) | 1, _ => exact hs (.arrayOf (.field (.string "LevelNetworkLaw$Net" 74) "java/lang/String" "value" "[B") .byte) (by decide +kernel) | 2, _ => exact hs (.arrayOf (.field (.string "LevelNetworkLaw$Net" 80) "java/lang/String" "value" "[B") .byte) (by decide +kernel) | 3, _ => exact hs (.arrayOf (.field (.string "LevelNetworkLaw$Net" 85) "java/lang/String" "value" "[B") .byte) (by decide +kernel) | 4, _ => exact hs (.arrayOf (.field (.string "LevelNetworkLaw$Net" 93) "java/lang/String" "value" "[B") .byte) (by decide +kernel) | 5, _ => exact hs (.arrayOf (.field (.string "LevelNetworkLaw$Net" 96) "java/lang/String" "value" "[B") .byte) (by decide +kernel) | 6, _ => exact hs (.arrayOf (.field (.string "LevelNetworkLaw$Net" 123) "java/lang/String" "value" "[B") .byte) (by decide +kernel) | 7, _ => exact hs (.arrayOf (.field (.string "LevelNetworkLaw$Net" 125) "java/lang/String" "value" "[B") .byte) (by decide +kernel) | 8, _ => exact hs (.arrayOf (.field (.string "LevelNetworkLaw$Net" 127) "java/lang/String" "value" "[B") .byte) (by decide +kernel) | k + 9, h9 => exact absurd h9 (by omega)) (fun i hi => by match i, hi with | 0, _ => exact hs (.eq (.length (.field (.string "LevelNetworkLaw$Net" 65) "java/lang/String" "value" "[B")) (.int 14)) (by decide +kernel) | 1, _ => exact hs (.eq (.length (.field (.string "LevelNetworkLaw$Net" 74) "java/lang/String" "value" "[B")) (.int 1)) (by decide +kernel) | 2, _ => exact hs (.eq (.length (.field (.string "LevelNetworkLaw$Net" 80) "java/lang/String" "value" "[B")) (.int 7)) (by decide +kernel) | 3, _ => exact hs (.eq (.length (.field (.string "LevelNetworkLaw$Net" 85) "java/lang/String" "value" "[B")) (.int 1)) (by decide +kernel) | 4, _ => exact hs (.eq (.length (.field (.string "LevelNetworkLaw$Net" 93) "java/lang/String" "value" "[B")) (.int 6)) (by decide +kernel) | 5, _ => exact hs (.eq (.length (.field (.string "LevelNetworkLaw$Net" 96) "java/lang/String" "value" "[B")) (.int 7)) (by decide +kernel) | 6, _ => exact hs (.eq (.length (.field (.string "LevelNetworkLaw$Net" 123) "java/lang/String" "value" "[B")) (.int 6)) (by decide +kernel) | 7, _ => exact hs (.eq (.length (.field (.string "LevelNetworkLaw$Net" 125) "java/lang/String" "value" "[B")) (.int 2)) (by decide +kernel) | 8, _ => exact hs (.eq (.length (.field (.string "LevelNetworkLaw$Net" 127) "java/lang/String" "value" "[B")) (.int 2)) (by decide +kernel) | k + 9, h9 => exact absurd h9 (by omega)) ?_ ?_ hA_lt
  · intro i hi j hj
    match i, hi, hj with
    | 0, _, hj =>
      replace hj : j < 14 := hj
      match j, hj with
      | 0, _ => exact hs (.eq (.elem (.field (.string "LevelNetworkLaw$Net" 65) "java/lang/String" "value" "[B") (.int 0)) (.int 115)) (by decide +kernel)
      | 1, _ => exact hs (.eq (.elem (.field (.string "LevelNetworkLaw$Net" 65) "java/lang/String" "value" "[B") (.int 1)) (.int 101)) (by decide +kernel)
      | 2, _ => exact hs (.eq (.elem (.field (.string "LevelNetworkLaw$Net" 65) "java/lang/String" "value" "[B") (.int 2)) (.int 116)) (by decide +kernel)
      | 3, _ => exact hs (.eq (.elem (.field (.string "LevelNetworkLaw$Net" 65) "java/lang/String" "value" "[B") (.int 3)) (.int 32)) (by decide +kernel)
      | 4, _ => exact hs (.eq (.elem (.field (.string "LevelNetworkLaw$Net" 65) "java/lang/String" "value" "[B") (.int 4)) (.int 116)) (by decide +kernel)
      | 5, _ => exact hs (.eq (.elem (.field (.string "LevelNetworkLaw$Net" 65) "java/lang/String" "value" "[B") (.int 5)) (.int 111)) (by decide +kernel)
      | 6, _ => exact hs (.eq (.elem (.field (.string "LevelNetworkLaw$Net" 65) "java/lang/String" "value" "[B") (.int 6)) (.int 108)) (by decide +kernel)
      | 7, _ => exact hs (.eq (.elem (.field (.string "LevelNetworkLaw$Net" 65) "java/lang/String" "value" "[B") (.int 7)) (.int 101)) (by decide +kernel)
      | 8, _ => exact hs (.eq (.elem (.field (.string "LevelNetworkLaw$Net" 65) "java/lang/String" "value" "[B") (.int 8)) (.int 114)) (by decide +kernel)
      | 9, _ => exact hs (.eq (.elem (.field (.string "LevelNetworkLaw$Net" 65) "java/lang/String" "value" "[B") (.int 9)) (.int 97)) (by decide +kernel)
      | 10, _ => exact hs (.eq (.elem (.field (.string "LevelNetworkLaw$Net" 65) "java/lang/String" "value" "[B") (.int 10)) (.int 110)) (by decide +kernel)
      | 11, _ => exact hs (.eq (.elem (.field (.string "LevelNetworkLaw$Net" 65) "java/lang/String" "value" "[B") (.int 11)) (.int 99)) (by decide +kernel)
      | 12, _ => exact hs (.eq (.elem (.field (.string "LevelNetworkLaw$Net" 65) "java/lang/String" "value" "[B") (.int 12)) (.int 101)) (by decide +kernel)
      | 13, _ => exact hs (.eq (.elem (.field (.string "LevelNetworkLaw$Net" 65) "java/lang/String" "value" "[B") (.int 13)) (.int 32)) (by decide +kernel)
      | k + 14, h9 => exact absurd h9 (by omega)
    | 1, _, hj =>
      replace hj : j < 1 := hj
      match j, hj with
      | 0, _ => exact hs (.eq (.elem (.field (.string "LevelNetworkLaw$Net" 74) "java/lang/String" "value" "[B") (.int 0)) (.int 59)) (by decide +kernel)
      | k + 1, h9 => exact absurd h9 (by omega)
    | 2, _, hj =>
      replace hj : j < 7 := hj
      match j, hj with
      | 0, _ => exact hs (.eq (.elem (.field (.string "LevelNetworkLaw$Net" 80) "java/lang/String" "value" "[B") (.int 0)) (.int 108)) (by decide +kernel)
      | 1, _ => exact hs (.eq (.elem (.field (.string "LevelNetworkLaw$Net" 80) "java/lang/String" "value" "[B") (.int 1)) (.int 101)) (by decide +kernel)
      | 2, _ => exact hs (.eq (.elem (.field (.string "LevelNetworkLaw$Net" 80) "java/lang/String" "value" "[B") (.int 2)) (.int 118)) (by decide +kernel)
      | 3, _ => exact hs (.eq (.elem (.field (.string "LevelNetworkLaw$Net" 80) "java/lang/String" "value" "[B") (.int 3)) (.int 101)) (by decide +kernel)
      | 4, _ => exact hs (.eq (.elem (.field (.string "LevelNetworkLaw$Net" 80) "java/lang/String" "value" "[B") (.int 4)) (.int 108)) (by decide +kernel)
      | 5, _ => exact hs (.eq (.elem (.field (.string "LevelNetworkLaw$Net" 80) "java/lang/String" "value" "[B") (.int 5)) (.int 32)) (by decide +kernel)
      | 6, _ => exact hs (.eq (.elem (.field (.string "LevelNetworkLaw$Net" 80) "java/lang/String" "value" "[B") (.int 6)) (.int 108)) (by decide +kernel)
      | k + 7, h9 => exact absurd h9 (by omega)
    | 3, _, hj =>
      replace hj : j < 1 := hj
      match j, hj with
      | 0, _ => exact hs (.eq (.elem (.field (.string "LevelNetworkLaw$Net" 85) "java/lang/String" "value" "[B") (.int 0)) (.int 32)) (by decide +kernel)
      | k + 1, h9 => exact absurd h9 (by omega)
    | 4, _, hj =>
      replace hj : j < 6 := hj
      match j, hj with
      | 0, _ => exact hs (.eq (.elem (.field (.string "LevelNetworkLaw$Net" 93) "java/lang/String" "value" "[B") (.int 0)) (.int 32)) (by decide +kernel)
      | 1, _ => exact hs (.eq (.elem (.field (.string "LevelNetworkLaw$Net" 93) "java/lang/String" "value" "[B") (.int 1)) (.int 100)) (by decide +kernel)
      | 2, _ => exact hs (.eq (.elem (.field (.string "LevelNetworkLaw$Net" 93) "java/lang/String" "value" "[B") (.int 2)) (.int 111)) (by decide +kernel)
      | 3, _ => exact hs (.eq (.elem (.field (.string "LevelNetworkLaw$Net" 93) "java/lang/String" "value" "[B") (.int 3)) (.int 119)) (by decide +kernel)
      | 4, _ => exact hs (.eq (.elem (.field (.string "LevelNetworkLaw$Net" 93) "java/lang/String" "value" "[B") (.int 4)) (.int 110)) (by decide +kernel)
      | 5, _ => exact hs (.eq (.elem (.field (.string "LevelNetworkLaw$Net" 93) "java/lang/String" "value" "[B") (.int 5)) (.int 59)) (by decide +kernel)
      | k + 6, h9 => exact absurd h9 (by omega)
    | 5, _, hj =>
      replace hj : j < 7 := hj
      match j, hj with
      | 0, _ => exact hs (.eq (.elem (.field (.string "LevelNetworkLaw$Net" 96) "java/lang/String" "value" "[B") (.int 0)) (.int 112)) (by decide +kernel)
      | 1, _ => exact hs (.eq (.elem (.field (.string "LevelNetworkLaw$Net" 96) "java/lang/String" "value" "[B") (.int 1)) (.int 111)) (by decide +kernel)
      | 2, _ => exact hs (.eq (.elem (.field (.string "LevelNetworkLaw$Net" 96) "java/lang/String" "value" "[B") (.int 2)) (.int 105)) (by decide +kernel)
      | 3, _ => exact hs (.eq (.elem (.field (.string "LevelNetworkLaw$Net" 96) "java/lang/String" "value" "[B") (.int 3)) (.int 110)) (by decide +kernel)
      | 4, _ => exact hs (.eq (.elem (.field (.string "LevelNetworkLaw$Net" 96) "java/lang/String" "value" "[B") (.int 4)) (.int 116)) (by decide +kernel)
      | 5, _ => exact hs (.eq (.elem (.field (.string "LevelNetworkLaw$Net" 96) "java/lang/String" "value" "[B") (.int 5)) (.int 32)) (by decide +kernel)
      | 6, _ => exact hs (.eq (.elem (.field (.string "LevelNetworkLaw$Net" 96) "java/lang/String" "value" "[B") (.int 6)) (.int 112)) (by decide +kernel)
      | k + 7, h9 => exact absurd h9 (by omega)
    | 6, _, hj =>
      replace hj : j < 6 := hj
      match j, hj with
      | 0, _ => exact hs (.eq (.elem (.field (.string "LevelNetworkLaw$Net" 123) "java/lang/String" "value" "[B") (.int 0)) (.int 108)) (by decide +kernel)
      | 1, _ => exact hs (.eq (.elem (.field (.string "LevelNetworkLaw$Net" 123) "java/lang/String" "value" "[B") (.int 1)) (.int 105)) (by decide +kernel)
      | 2, _ => exact hs (.eq (.elem (.field (.string "LevelNetworkLaw$Net" 123) "java/lang/String" "value" "[B") (.int 2)) (.int 110)) (by decide +kernel)
      | 3, _ => exact hs (.eq (.elem (.field (.string "LevelNetworkLaw$Net" 123) "java/lang/String" "value" "[B") (.int 3)) (.int 101)) (by decide +kernel)
      | 4, _ => exact hs (.eq (.elem (.field (.string "LevelNetworkLaw$Net" 123) "java/lang/String" "value" "[B") (.int 4)) (.int 32)) (by decide +kernel)
      | 5, _ => exact hs (.eq (.elem (.field (.string "LevelNetworkLaw$Net" 123) "java/lang/String" "value" "[B") (.int 5)) (.int 112)) (by decide +kernel)
      | k + 6, h9 => exact absurd h9 (by omega)
    | 7, _, hj =>
      replace hj : j < 2 := hj
      match j, hj with
      | 0, _ => exact hs (.eq (.elem (.field (.string "LevelNetworkLaw$Net" 125) "java/lang/String" "value" "[B") (.int 0)) (.int 32)) (by decide +kernel)
      | 1, _ => exact hs (.eq (.elem (.field (.string "LevelNetworkLaw$Net" 125) "java/lang/String" "value" "[B") (.int 1)) (.int 112)) (by decide +kernel)
      | k + 2, h9 => exact absurd h9 (by omega)
    | 8, _, hj =>
      replace hj : j < 2 := hj
      match j, hj with
      | 0, _ => exact hs (.eq (.elem (.field (.string "LevelNetworkLaw$Net" 127) "java/lang/String" "value" "[B") (.int 0)) (.int 32)) (by decide +kernel)
      | 1, _ => exact hs (.eq (.elem (.field (.string "LevelNetworkLaw$Net" 127) "java/lang/String" "value" "[B") (.int 1)) (.int 108)) (by decide +kernel)
      | k + 2, h9 => exact absurd h9 (by omega)
    | k + 9, h9, _ => exact absurd h9 (by omega)
  · intro i j hi hj hne
    have h0 : ∀ i, i < 9 → ∀ j, j < 9 → i ≠ j → (.not (.eq (sTm i) (sTm j)) ∈ flatC (Jvm.Cond.and given_1 narrow_1)) ∨ (.not (.eq (sTm j) (sTm i)) ∈ flatC (Jvm.Cond.and given_1 narrow_1)) := by decide +kernel
    exact (h0 i hi j hj hne).imp (fun h => hs _ h) (fun h => hs _ h)
set_option maxRecDepth 100000 in
set_option maxHeartbeats 4000000 in
theorem st_DigitOnes (hts : ∀ w ∈ lw_tbl, w.before args s = true) (hgv : (Jvm.Cond.and given_1 narrow_1).before args s = true) : ∃ t : Nat, va_Z "java/lang/Integer" "DigitOnes" "[B" (.ref t) (hA s.heap.size) s s.heap ∧ va_T .byte t 100 (fun j => .int (nI (48 + j % 10))) (hA s.heap.size) s s.heap := by
  have hs := flat_of_before _ hgv
  obtain ⟨t, ht, hT⟩ := va_Tof (tm := (.static "java/lang/Integer" "DigitOnes" "[B")) (ty := .byte) (N := 100) (f := fun j => .int (nI (48 + j % 10))) (A := hA s.heap.size) (by decide) (hs (.arrayOf (.static "java/lang/Integer" "DigitOnes" "[B") .byte) (by decide +kernel)) (va_eqt (hs (.eq (.length (.static "java/lang/Integer" "DigitOnes" "[B")) (.int 100)) (by decide +kernel))) (fun j hj => by match j, hj with | 0, _ => exact va_eqt (hs (.eq (.elem (.static "java/lang/Integer" "DigitOnes" "[B") (.int 0)) (.int 48)) (by decide +kernel)) | 1, _ => exact va_eqt (hs (.eq (.elem (.static "java/lang/Integer" "DigitOnes" "[B") (.int 1)) (.int 49)) (by decide +kernel)) | 2, _ => exact va_eqt (hs (.eq (.elem (.static "java/lang/Integer" "DigitOnes" "[B") (.int 2)) (.int 50)) (by decide +kernel)) | 3, _ => exact va_eqt (hs (.eq (.elem (.static "java/lang/Integer" "DigitOnes" "[B") (.int 3)) (.int 51)) (by decide +kernel)) | 4, _ => exact va_eqt (hs (.eq (.elem (.static "java/lang/Integer" "DigitOnes" "[B") (.int 4)) (.int 52)) (by decide +kernel)) | 5, _ => exact va_eqt (hs (.eq (.elem (.static "java/lang/Integer" "DigitOnes" "[B") (.int 5)) (.int 53)) (by decide +kernel)) | 6, _ => exact va_eqt (hs (.eq (.elem (.static "java/lang/Integer" "DigitOnes" "[B") (.int 6)) (.int 54)) (by decide +kernel)) | 7, _ => exact va_eqt (hs (.eq (.elem (.static "java/lang/Integer" "DigitOnes" "[B") (.int 7)) (.int 55)) (by decide +kernel)) | 8, _ => exact va_eqt (hs (.eq (.elem (.static "java/lang/Integer" "DigitOnes" "[B") (.int 8)) (.int 56)) (by decide +kernel)) | 9, _ => exact va_eqt (hs (.eq (.elem (.static "java/lang/Integer" "DigitOnes" "[B") (.int 9)) (.int 57)) (by decide +kernel)) | 10, _ => exact va_eqt (hs (.eq (.elem (.static "java/lang/Integer" "DigitOnes" "[B") (.int 10)) (.int 48)) (by decide +kernel)) | 11, _ => exact va_eqt (hs (.eq (.elem (.static "java/lang/Integer" "DigitOnes" "[B") (.int 11)) (.int 49)) (by decide +kernel)) | 12, _ => exact va_eqt (hs (.eq (.elem (.static "java/lang/Integer" "DigitOnes" "[B") (.int 12)) (.int 50)) (by decide +kernel)) | 13, _ => exact va_eqt (hs (.eq (.elem (.static "java/lang/Integer" "DigitOnes" "[B") (.int 13)) (.int 51)) (by decide +kernel)) | 14, _ => exact va_eqt (hs (.eq (.elem (.static "java/lang/Integer" "DigitOnes" "[B") (.int 14)) (.int 52)) (by decide +kernel)) | 15, _ => exact va_eqt (hs (.eq (.elem (.static "java/lang/Integer" "DigitOnes" "[B") (.int 15)) (.int 53)) (by decide +kernel)) | 16, _ => exact va_eqt (hs (.eq (.elem (.static "java/lang/Integer" "DigitOnes" "[B") (.int 16)) (.int 54)) (by decide +kernel)) | 17, _ => exact va_eqt (hs (.eq (.elem (.static "java/lang/Integer" "DigitOnes" "[B") (.int 17)) (.int 55)) (by decide +kernel)) | 18, _ => exact va_eqt (hs (.eq (.elem (.static "java/lang/Integer" "DigitOnes" "[B") (.int 18)) (.int 56)) (by decide +kernel)) | 19, _ => exact va_eqt (hs (.eq (.elem (.static "java/lang/Integer" "DigitOnes" "[B") (.int 19)) (.int 57)) (by decide +kernel)) | 20, _ => exact va_eqt (hs (.eq (.elem (.static "java/lang/Integer" "DigitOnes" "[B") (.int 20)) (.int 48)) (by decide +kernel)) | 21, _ => exact va_eqt (hs (.eq (.elem (.static "java/lang/Integer" "DigitOnes" "[B") (.int 21)) (.int 49)) (by decide +kernel)) | 22, _ => exact va_eqt (hs (.eq (.elem (.static "java/lang/Integer" "DigitOnes" "[B") (.int 22)) (.int 50)) (by decide +kernel)) | 23, _ => exact va_eqt (hs (.eq (.elem (.static "java/lang/Integer" "DigitOnes" "[B") (.int 23)) (.int 51)) (by decide +kernel)) | 24, _ => exact va_eqt (hs (.eq (.elem (.static "java/lang/Integer" "DigitOnes" "[B") (.int 24)) (.int 52)) (by decide +kernel)) | 25, _ => exact va_eqt (hs (.eq (.elem (.static "java/lang/Integer" "DigitOnes" "[B") (.int 25)) (.int 53)) (by decide +kernel)) | 26, _ => exact va_eqt (hs (.eq (.elem (.static "java/lang/Integer" "DigitOnes" "[B") (.int 26)) (.int 54)) (by decide +kernel)) | 27, _ => exact va_eqt (hs (.eq (.elem (.static "java/lang/Integer" "DigitOnes" "[B") (.int 27)) (.int 55)) (by decide +kernel)) | 28, _ => exact va_eqt (hs (.eq (.elem (.static "java/lang/Integer" "DigitOnes" "[B") (.int 28)) (.int 56)) (by decide +kernel)) | 29, _ => exact va_eqt (hs (.eq (.elem (.static "java/lang/Integer" "DigitOnes" "[B") (.int 29)) (.int 57)) (by decide +kernel)) | 30, _ => exact va_eqt (hs (.eq (.elem (.static "java/lang/Integer" "DigitOnes" "[B") (.int 30)) (.int 48)) (by decide +kernel)) | 31, _ => exact va_eqt (hs (.eq (.elem (.static "java/lang/Integer" "DigitOnes" "[B") (.int 31)) (.int 49)) (by decide +kernel)) | 32, _ => exact va_eqt (hs (.eq (.elem (.static "java/lang/Integer" "DigitOnes" "[B") (.int 32)) (.int 50)) (by decide +kernel)) | 33, _ => exact va_eqt (hs (.eq (.elem (.static "java/lang/Integer" "DigitOnes" "[B") (.int 33)) (.int 51)) (by decide +kernel)) | 34, _ => exact va_eqt (hs (.eq (.elem (.static "java/lang/Integer" "DigitOnes" "[B") (.int 34)) (.int 52)) (by decide +kernel)) | 35, _ => exact va_eqt (hs (.eq (.elem (.static "java/lang/Integer" "DigitOnes" "[B") (.int 35)) (.int 53)) (by decide +kernel)) | 36, _ => exact va_eqt (hs (.eq (.elem (.static "java/lang/Integer" "DigitOnes" "[B") (.int 36)) (.int 54)) (by decide +kernel)) | 37, _ => exact va_eqt (hs (.eq (.elem (.static "java/lang/Integer" "DigitOnes" "[B") (.int 37)) (.int 55)) (by decide +kernel)) | 38, _ => exact va_eqt (hs (.eq (.elem (.static "java/lang/Integer" "DigitOnes" "[B") (.int 38)) (.int 56)) (by decide +kernel)) | 39, _ => exact va_eqt (hs (.eq (.elem (.static "java/lang/Integer" "DigitOnes" "[B") (.int 39)) (.int 57)) (by decide +kernel)) | 40, _ => exact va_eqt (hs (.eq (.elem (.static "java/lang/Integer" "DigitOnes" "[B") (.int 40)) (.int 48)) (by decide +kernel)) | 41, _ => exact va_eqt (hs (.eq (.elem (.static "java/lang/Integer" "DigitOnes" "[B") (.int 41)) (.int 49)) (by decide +kernel)) | 42, _ => exact va_eqt (hs (.eq (.elem (.static "java/lang/Integer" "DigitOnes" "[B") (.int 42)) (.int 50)) (by decide +kernel)) | 43, _ => exact va_eqt (hs (.eq (.elem (.static "java/lang/Integer" "DigitOnes" "[B") (.int 43)) (.int 51)) (by decide +kernel)) | 44, _ => exact va_eqt (hs (.eq (.elem (.static "java/lang/Integer" "DigitOnes" "[B") (.int 44)) (.int 52)) (by decide +kernel)) | 45, _ => exact va_eqt (hs (.eq (.elem (.static "java/lang/Integer" "DigitOnes" "[B") (.int 45)) (.int 53)) (by decide +kernel)) | 46, _ => exact va_eqt (hs (.eq (.elem (.static "java/lang/Integer" "DigitOnes" "[B") (.int 46)) (.int 54)) (by decide +kernel)) | 47, _ => exact va_eqt (hs (.eq (.elem (.static "java/lang/Integer" "DigitOnes" "[B") (.int 47)) (.int 55)) (by decide +kernel)) | 48, _ => exact va_eqt (hs (.eq (.elem (.static "java/lang/Integer" "DigitOnes" "[B") (.int 48)) (.int 56)) (by decide +kernel)) | 49, _ => exact va_eqt (hs (.eq (.elem (.static "java/lang/Integer" "DigitOnes" "[B") (.int 49)) (.int 57)) (by decide +kernel)) | 50, _ => exact va_eqt (hs (.eq (.elem (.static "java/lang/Integer" "DigitOnes" "[B") (.int 50)) (.int 48)) (by decide +kernel)) | 51, _ => exact va_eqt (hs (.eq (.elem (.static "java/lang/Integer" "DigitOnes" "[B") (.int 51)) (.int 49)) (by decide +kernel)) | 52, _ => exact va_eqt (hs (.eq (.elem (.static "java/lang/Integer" "DigitOnes" "[B") (.int 52)) (.int 50)) (by decide +kernel)) | 53, _ => exact va_eqt (hs (.eq (.elem (.static "java/lang/Integer" "DigitOnes" "[B") (.int 53)) (.int 51)) (by decide +kernel)) | 54, _ => exact va_eqt (hs (.eq (.elem (.static "java/lang/Integer" "DigitOnes" "[B") (.int 54)) (.int 52)) (by decide +kernel)) | 55, _ => exact va_eqt (hs (.eq (.elem (.static "java/lang/Integer" "DigitOnes" "[B") (.int 55)) (.int 53)) (by decide +kernel)) | 56, _ => exact va_eqt (hs (.eq (.elem (.static "java/lang/Integer" "DigitOnes" "[B") (.int 56)) (.int 54)) (by decide +kernel)) | 57, _ => exact va_eqt (hs (.eq (.elem (.static "java/lang/Integer" "DigitOnes" "[B") (.int 57)) (.int 55)) (by decide +kernel)) | 58, _ => exact va_eqt (hs (.eq (.elem (.static "java/lang/Integer" "DigitOnes" "[B") (.int 58)) (.int 56)) (by decide +kernel)) | 59, _ => exact va_eqt (hs (.eq (.elem (.static "java/lang/Integer" "DigitOnes" "[B") (.int 59)) (.int 57)) (by decide +kernel)) | 60, _ => exact va_eqt (hs (.eq (.elem (.static "java/lang/Integer" "DigitOnes" "[B") (.int 60)) (.int 48)) (by decide +kernel)) | 61, _ => exact va_eqt (hs (.eq (.elem (.static "java/lang/Integer" "DigitOnes" "[B") (.int 61)) (.int 49)) (by decide +kernel)) | 62, _ => exact va_eqt (hs (.eq (.elem (.static "java/lang/Integer" "DigitOnes" "[B") (.int 62)) (.int 50)) (by decide +kernel)) | 63, _ => exact va_eqt (hs (.eq (.elem (.static "java/lang/Integer" "DigitOnes" "[B") (.int 63)) (.int 51)) (by decide +kernel)) | 64, _ => exact va_eqt (hs (.eq (.elem (.static "java/lang/Integer" "DigitOnes" "[B") (.int 64)) (.int 52)) (by decide +kernel)) | 65, _ => exact va_eqt (hs (.eq (.elem (.static "java/lang/Integer" "DigitOnes" "[B") (.int 65)) (.int 53)) (by decide +kernel)) | 66, _ => exact va_eqt (hs (.eq (.elem (.static "java/lang/Integer" "DigitOnes" "[B") (.int 66)) (.int 54)) (by decide +kernel)) | 67, _ => exact va_eqt (hs (.eq (.elem (.static "java/lang/Integer" "DigitOnes" "[B") (.int 67)) (.int 55)) (by decide +kernel)) | 68, _ => exact va_eqt (hs (.eq (.elem (.static "java/lang/Integer" "DigitOnes" "[B") (.int 68)) (.int 56)) (by decide +kernel)) | 69, _ => exact va_eqt (hs (.eq (.elem (.static "java/lang/Integer" "DigitOnes" "[B") (.int 69)) (.int 57)) (by decide +kernel)) | 70, _ => exact va_eqt (hs (.eq (.elem (.static "java/lang/Integer" "DigitOnes" "[B") (.int 70)) (.int 48)) (by decide +kernel)) | 71, _ => exact va_eqt (hs (.eq (.elem (.static "java/lang/Integer" "DigitOnes" "[B") (.int 71)) (.int 49)) (by decide +kernel)) | 72, _ => exact va_eqt (hs (.eq (.elem (.static "java/lang/Integer" "DigitOnes" "[B") (.int 72)) (.int 50)) (by decide +kernel)) | 73, _ => exact va_eqt (hs (.eq (.elem (.static "java/lang/Integer" "DigitOnes" "[B") (.int 73)) (.int 51)) (by decide +kernel)) | 74, _ => exact va_eqt (hs (.eq (.elem (.static "java/lang/Integer" "DigitOnes" "[B") (.int 74)) (.int 52)) (by decide +kernel)) | 75, _ => exact va_eqt (hs (.eq (.elem (.static "java/lang/Integer" "DigitOnes" "[B") (.int 75)) (.int 53)) (by decide +kernel)) | 76, _ => exact va_eqt (hs (.eq (.elem (.static "java/lang/Integer" "DigitOnes" "[B") (.int 76)) (.int 54)) (by decide +kernel)) | 77, _ => exact va_eqt (hs (.eq (.elem (.static "java/lang/Integer" "DigitOnes" "[B") (.int 77)) (.int 55)) (by decide +kernel)) | 78, _ => exact va_eqt (hs (.eq (.elem (.static "java/lang/Integer" "DigitOnes" "[B") (.int 78)) (.int 56)) (by decide +kernel)) | 79, _ => exact va_eqt (hs (.eq (.elem (.static "java/lang/Integer" "DigitOnes" "[B") (.int 79)) (.int 57)) (by decide +kernel)) | 80, _ => exact va_eqt (hs (.eq (.elem (.static "java/lang/Integer" "DigitOnes" "[B") (.int 80)) (.int 48)) (by decide +kernel)) | 81, _ => exact va_eqt (hs (.eq (.elem (.static "java/lang/Integer" "DigitOnes" "[B") (.int 81)) (.int 49)) (by decide +kernel)) | 82, _ => exact va_eqt (hs (.eq (.elem (.static "java/lang/Integer" "DigitOnes" "[B") (.int 82)) (.int 50)) (by decide +kernel)) | 83, _ => exact va_eqt (hs (.eq (.elem (.static "java/lang/Integer" "DigitOnes" "[B") (.int 83)) (.int 51)) (by decide +kernel)) | 84, _ => exact va_eqt (hs (.eq (.elem (.static "java/lang/Integer" "DigitOnes" "[B") (.int 84)) (.int 52)) (by decide +kernel)) | 85, _ => exact va_eqt (hs (.eq (.elem (.static "java/lang/Integer" "DigitOnes" "[B") (.int 85)) (.int 53)) (by decide +kernel)) | 86, _ => exact va_eqt (hs (.eq (.elem (.static "java/lang/Integer" "DigitOnes" "[B") (.int 86)) (.int 54)) (by decide +kernel)) | 87, _ => exact va_eqt (hs (.eq (.elem (.static "java/lang/Integer" "DigitOnes" "[B") (.int 87)) (.int 55)) (by decide +kernel)) | 88, _ => exact va_eqt (hs (.eq (.elem (.static "java/lang/Integer" "DigitOnes" "[B") (.int 88)) (.int 56)) (by decide +kernel)) | 89, _ => exact va_eqt (hs (.eq (.elem (.static "java/lang/Integer" "DigitOnes" "[B") (.int 89)) (.int 57)) (by decide +kernel)) | 90, _ => exact va_eqt (hs (.eq (.elem (.static "java/lang/Integer" "DigitOnes" "[B") (.int 90)) (.int 48)) (by decide +kernel)) | 91, _ => exact va_eqt (hs (.eq (.elem (.static "java/lang/Integer" "DigitOnes" "[B") (.int 91)) (.int 49)) (by decide +kernel)) | 92, _ => exact va_eqt (hs (.eq (.elem (.static "java/lang/Integer" "DigitOnes" "[B") (.int 92)) (.int 50)) (by decide +kernel)) | 93, _ => exact va_eqt (hs (.eq (.elem (.static "java/lang/Integer" "DigitOnes" "[B") (.int 93)) (.int 51)) (by decide +kernel)) | 94, _ => exact va_eqt (hs (.eq (.elem (.static "java/lang/Integer" "DigitOnes" "[B") (.int 94)) (.int 52)) (by decide +kernel)) | 95, _ => exact va_eqt (hs (.eq (.elem (.static "java/lang/Integer" "DigitOnes" "[B") (.int 95)) (.int 53)) (by decide +kernel)) | 96, _ => exact va_eqt (hs (.eq (.elem (.static "java/lang/Integer" "DigitOnes" "[B") (.int 96)) (.int 54)) (by decide +kernel)) | 97, _ => exact va_eqt (hs (.eq (.elem (.static "java/lang/Integer" "DigitOnes" "[B") (.int 97)) (.int 55)) (by decide +kernel)) | 98, _ => exact va_eqt (hs (.eq (.elem (.static "java/lang/Integer" "DigitOnes" "[B") (.int 98)) (.int 56)) (by decide +kernel)) | 99, _ => exact va_eqt (hs (.eq (.elem (.static "java/lang/Integer" "DigitOnes" "[B") (.int 99)) (.int 57)) (by decide +kernel)) | k + 100, h9 => exact absurd h9 (by omega)) hA_lt
  exact ⟨t, va_Zref (hts _ (tb3 (List.mem_of_getElem? (i := 184) rfl))) (E0 hts kw_73) ht hA_lt, hT⟩
set_option maxRecDepth 100000 in
set_option maxHeartbeats 4000000 in
theorem st_DigitTens (hts : ∀ w ∈ lw_tbl, w.before args s = true) (hgv : (Jvm.Cond.and given_1 narrow_1).before args s = true) : ∃ t : Nat, va_Z "java/lang/Integer" "DigitTens" "[B" (.ref t) (hA s.heap.size) s s.heap ∧ va_T .byte t 100 (fun j => .int (nI (48 + j / 10))) (hA s.heap.size) s s.heap := by
  have hs := flat_of_before _ hgv
  obtain ⟨t, ht, hT⟩ := va_Tof (tm := (.static "java/lang/Integer" "DigitTens" "[B")) (ty := .byte) (N := 100) (f := fun j => .int (nI (48 + j / 10))) (A := hA s.heap.size) (by decide) (hs (.arrayOf (.static "java/lang/Integer" "DigitTens" "[B") .byte) (by decide +kernel)) (va_eqt (hs (.eq (.length (.static "java/lang/Integer" "DigitTens" "[B")) (.int 100)) (by decide +kernel))) (fun j hj => by match j, hj with | 0, _ => exact va_eqt (hs (.eq (.elem (.static "java/lang/Integer" "DigitTens" "[B") (.int 0)) (.int 48)) (by decide +kernel)) | 1, _ => exact va_eqt (hs (.eq (.elem (.static "java/lang/Integer" "DigitTens" "[B") (.int 1)) (.int 48)) (by decide +kernel)) | 2, _ => exact va_eqt (hs (.eq (.elem (.static "java/lang/Integer" "DigitTens" "[B") (.int 2)) (.int 48)) (by decide +kernel)) | 3, _ => exact va_eqt (hs (.eq (.elem (.static "java/lang/Integer" "DigitTens" "[B") (.int 3)) (.int 48)) (by decide +kernel)) | 4, _ => exact va_eqt (hs (.eq (.elem (.static "java/lang/Integer" "DigitTens" "[B") (.int 4)) (.int 48)) (by decide +kernel)) | 5, _ => exact va_eqt (hs (.eq (.elem (.static "java/lang/Integer" "DigitTens" "[B") (.int 5)) (.int 48)) (by decide +kernel)) | 6, _ => exact va_eqt (hs (.eq (.elem (.static "java/lang/Integer" "DigitTens" "[B") (.int 6)) (.int 48)) (by decide +kernel)) | 7, _ => exact va_eqt (hs (.eq (.elem (.static "java/lang/Integer" "DigitTens" "[B") (.int 7)) (.int 48)) (by decide +kernel)) | 8, _ => exact va_eqt (hs (.eq (.elem (.static "java/lang/Integer" "DigitTens" "[B") (.int 8)) (.int 48)) (by decide +kernel)) | 9, _ => exact va_eqt (hs (.eq (.elem (.static "java/lang/Integer" "DigitTens" "[B") (.int 9)) (.int 48)) (by decide +kernel)) | 10, _ => exact va_eqt (hs (.eq (.elem (.static "java/lang/Integer" "DigitTens" "[B") (.int 10)) (.int 49)) (by decide +kernel)) | 11, _ => exact va_eqt (hs (.eq (.elem (.static "java/lang/Integer" "DigitTens" "[B") (.int 11)) (.int 49)) (by decide +kernel)) | 12, _ => exact va_eqt (hs (.eq (.elem (.static "java/lang/Integer" "DigitTens" "[B") (.int 12)) (.int 49)) (by decide +kernel)) | 13, _ => exact va_eqt (hs (.eq (.elem (.static "java/lang/Integer" "DigitTens" "[B") (.int 13)) (.int 49)) (by decide +kernel)) | 14, _ => exact va_eqt (hs (.eq (.elem (.static "java/lang/Integer" "DigitTens" "[B") (.int 14)) (.int 49)) (by decide +kernel)) | 15, _ => exact va_eqt (hs (.eq (.elem (.static "java/lang/Integer" "DigitTens" "[B") (.int 15)) (.int 49)) (by decide +kernel)) | 16, _ => exact va_eqt (hs (.eq (.elem (.static "java/lang/Integer" "DigitTens" "[B") (.int 16)) (.int 49)) (by decide +kernel)) | 17, _ => exact va_eqt (hs (.eq (.elem (.static "java/lang/Integer" "DigitTens" "[B") (.int 17)) (.int 49)) (by decide +kernel)) | 18, _ => exact va_eqt (hs (.eq (.elem (.static "java/lang/Integer" "DigitTens" "[B") (.int 18)) (.int 49)) (by decide +kernel)) | 19, _ => exact va_eqt (hs (.eq (.elem (.static "java/lang/Integer" "DigitTens" "[B") (.int 19)) (.int 49)) (by decide +kernel)) | 20, _ => exact va_eqt (hs (.eq (.elem (.static "java/lang/Integer" "DigitTens" "[B") (.int 20)) (.int 50)) (by decide +kernel)) | 21, _ => exact va_eqt (hs (.eq (.elem (.static "java/lang/Integer" "DigitTens" "[B") (.int 21)) (.int 50)) (by decide +kernel)) | 22, _ => exact va_eqt (hs (.eq (.elem (.static "java/lang/Integer" "DigitTens" "[B") (.int 22)) (.int 50)) (by decide +kernel)) | 23, _ => exact va_eqt (hs (.eq (.elem (.static "java/lang/Integer" "DigitTens" "[B") (.int 23)) (.int 50)) (by decide +kernel)) | 24, _ => exact va_eqt (hs (.eq (.elem (.static "java/lang/Integer" "DigitTens" "[B") (.int 24)) (.int 50)) (by decide +kernel)) | 25, _ => exact va_eqt (hs (.eq (.elem (.static "java/lang/Integer" "DigitTens" "[B") (.int 25)) (.int 50)) (by decide +kernel)) | 26, _ => exact va_eqt (hs (.eq (.elem (.static "java/lang/Integer" "DigitTens" "[B") (.int 26)) (.int 50)) (by decide +kernel)) | 27, _ => exact va_eqt (hs (.eq (.elem (.static "java/lang/Integer" "DigitTens" "[B") (.int 27)) (.int 50)) (by decide +kernel)) | 28, _ => exact va_eqt (hs (.eq (.elem (.static "java/lang/Integer" "DigitTens" "[B") (.int 28)) (.int 50)) (by decide +kernel)) | 29, _ => exact va_eqt (hs (.eq (.elem (.static "java/lang/Integer" "DigitTens" "[B") (.int 29)) (.int 50)) (by decide +kernel)) | 30, _ => exact va_eqt (hs (.eq (.elem (.static "java/lang/Integer" "DigitTens" "[B") (.int 30)) (.int 51)) (by decide +kernel)) | 31, _ => exact va_eqt (hs (.eq (.elem (.static "java/lang/Integer" "DigitTens" "[B") (.int 31)) (.int 51)) (by decide +kernel)) | 32, _ => exact va_eqt (hs (.eq (.elem (.static "java/lang/Integer" "DigitTens" "[B") (.int 32)) (.int 51)) (by decide +kernel)) | 33, _ => exact va_eqt (hs (.eq (.elem (.static "java/lang/Integer" "DigitTens" "[B") (.int 33)) (.int 51)) (by decide +kernel)) | 34, _ => exact va_eqt (hs (.eq (.elem (.static "java/lang/Integer" "DigitTens" "[B") (.int 34)) (.int 51)) (by decide +kernel)) | 35, _ => exact va_eqt (hs (.eq (.elem (.static "java/lang/Integer" "DigitTens" "[B") (.int 35)) (.int 51)) (by decide +kernel)) | 36, _ => exact va_eqt (hs (.eq (.elem (.static "java/lang/Integer" "DigitTens" "[B") (.int 36)) (.int 51)) (by decide +kernel)) | 37, _ => exact va_eqt (hs (.eq (.elem (.static "java/lang/Integer" "DigitTens" "[B") (.int 37)) (.int 51)) (by decide +kernel)) | 38, _ => exact va_eqt (hs (.eq (.elem (.static "java/lang/Integer" "DigitTens" "[B") (.int 38)) (.int 51)) (by decide +kernel)) | 39, _ => exact va_eqt (hs (.eq (.elem (.static "java/lang/Integer" "DigitTens" "[B") (.int 39)) (.int 51)) (by decide +kernel)) | 40, _ => exact va_eqt (hs (.eq (.elem (.static "java/lang/Integer" "DigitTens" "[B") (.int 40)) (.int 52)) (by decide +kernel)) | 41, _ => exact va_eqt (hs (.eq (.elem (.static "java/lang/Integer" "DigitTens" "[B") (.int 41)) (.int 52)) (by decide +kernel)) | 42, _ => exact va_eqt (hs (.eq (.elem (.static "java/lang/Integer" "DigitTens" "[B") (.int 42)) (.int 52)) (by decide +kernel)) | 43, _ => exact va_eqt (hs (.eq (.elem (.static "java/lang/Integer" "DigitTens" "[B") (.int 43)) (.int 52)) (by decide +kernel)) | 44, _ => exact va_eqt (hs (.eq (.elem (.static "java/lang/Integer" "DigitTens" "[B") (.int 44)) (.int 52)) (by decide +kernel)) | 45, _ => exact va_eqt (hs (.eq (.elem (.static "java/lang/Integer" "DigitTens" "[B") (.int 45)) (.int 52)) (by decide +kernel)) | 46, _ => exact va_eqt (hs (.eq (.elem (.static "java/lang/Integer" "DigitTens" "[B") (.int 46)) (.int 52)) (by decide +kernel)) | 47, _ => exact va_eqt (hs (.eq (.elem (.static "java/lang/Integer" "DigitTens" "[B") (.int 47)) (.int 52)) (by decide +kernel)) | 48, _ => exact va_eqt (hs (.eq (.elem (.static "java/lang/Integer" "DigitTens" "[B") (.int 48)) (.int 52)) (by decide +kernel)) | 49, _ => exact va_eqt (hs (.eq (.elem (.static "java/lang/Integer" "DigitTens" "[B") (.int 49)) (.int 52)) (by decide +kernel)) | 50, _ => exact va_eqt (hs (.eq (.elem (.static "java/lang/Integer" "DigitTens" "[B") (.int 50)) (.int 53)) (by decide +kernel)) | 51, _ => exact va_eqt (hs (.eq (.elem (.static "java/lang/Integer" "DigitTens" "[B") (.int 51)) (.int 53)) (by decide +kernel)) | 52, _ => exact va_eqt (hs (.eq (.elem (.static "java/lang/Integer" "DigitTens" "[B") (.int 52)) (.int 53)) (by decide +kernel)) | 53, _ => exact va_eqt (hs (.eq (.elem (.static "java/lang/Integer" "DigitTens" "[B") (.int 53)) (.int 53)) (by decide +kernel)) | 54, _ => exact va_eqt (hs (.eq (.elem (.static "java/lang/Integer" "DigitTens" "[B") (.int 54)) (.int 53)) (by decide +kernel)) | 55, _ => exact va_eqt (hs (.eq (.elem (.static "java/lang/Integer" "DigitTens" "[B") (.int 55)) (.int 53)) (by decide +kernel)) | 56, _ => exact va_eqt (hs (.eq (.elem (.static "java/lang/Integer" "DigitTens" "[B") (.int 56)) (.int 53)) (by decide +kernel)) | 57, _ => exact va_eqt (hs (.eq (.elem (.static "java/lang/Integer" "DigitTens" "[B") (.int 57)) (.int 53)) (by decide +kernel)) | 58, _ => exact va_eqt (hs (.eq (.elem (.static "java/lang/Integer" "DigitTens" "[B") (.int 58)) (.int 53)) (by decide +kernel)) | 59, _ => exact va_eqt (hs (.eq (.elem (.static "java/lang/Integer" "DigitTens" "[B") (.int 59)) (.int 53)) (by decide +kernel)) | 60, _ => exact va_eqt (hs (.eq (.elem (.static "java/lang/Integer" "DigitTens" "[B") (.int 60)) (.int 54)) (by decide +kernel)) | 61, _ => exact va_eqt (hs (.eq (.elem (.static "java/lang/Integer" "DigitTens" "[B") (.int 61)) (.int 54)) (by decide +kernel)) | 62, _ => exact va_eqt (hs (.eq (.elem (.static "java/lang/Integer" "DigitTens" "[B") (.int 62)) (.int 54)) (by decide +kernel)) | 63, _ => exact va_eqt (hs (.eq (.elem (.static "java/lang/Integer" "DigitTens" "[B") (.int 63)) (.int 54)) (by decide +kernel)) | 64, _ => exact va_eqt (hs (.eq (.elem (.static "java/lang/Integer" "DigitTens" "[B") (.int 64)) (.int 54)) (by decide +kernel)) | 65, _ => exact va_eqt (hs (.eq (.elem (.static "java/lang/Integer" "DigitTens" "[B") (.int 65)) (.int 54)) (by decide +kernel)) | 66, _ => exact va_eqt (hs (.eq (.elem (.static "java/lang/Integer" "DigitTens" "[B") (.int 66)) (.int 54)) (by decide +kernel)) | 67, _ => exact va_eqt (hs (.eq (.elem (.static "java/lang/Integer" "DigitTens" "[B") (.int 67)) (.int 54)) (by decide +kernel)) | 68, _ => exact va_eqt (hs (.eq (.elem (.static "java/lang/Integer" "DigitTens" "[B") (.int 68)) (.int 54)) (by decide +kernel)) | 69, _ => exact va_eqt (hs (.eq (.elem (.static "java/lang/Integer" "DigitTens" "[B") (.int 69)) (.int 54)) (by decide +kernel)) | 70, _ => exact va_eqt (hs (.eq (.elem (.static "java/lang/Integer" "DigitTens" "[B") (.int 70)) (.int 55)) (by decide +kernel)) | 71, _ => exact va_eqt (hs (.eq (.elem (.static "java/lang/Integer" "DigitTens" "[B") (.int 71)) (.int 55)) (by decide +kernel)) | 72, _ => exact va_eqt (hs (.eq (.elem (.static "java/lang/Integer" "DigitTens" "[B") (.int 72)) (.int 55)) (by decide +kernel)) | 73, _ => exact va_eqt (hs (.eq (.elem (.static "java/lang/Integer" "DigitTens" "[B") (.int 73)) (.int 55)) (by decide +kernel)) | 74, _ => exact va_eqt (hs (.eq (.elem (.static "java/lang/Integer" "DigitTens" "[B") (.int 74)) (.int 55)) (by decide +kernel)) | 75, _ => exact va_eqt (hs (.eq (.elem (.static "java/lang/Integer" "DigitTens" "[B") (.int 75)) (.int 55)) (by decide +kernel)) | 76, _ => exact va_eqt (hs (.eq (.elem (.static "java/lang/Integer" "DigitTens" "[B") (.int 76)) (.int 55)) (by decide +kernel)) | 77, _ => exact va_eqt (hs (.eq (.elem (.static "java/lang/Integer" "DigitTens" "[B") (.int 77)) (.int 55)) (by decide +kernel)) | 78, _ => exact va_eqt (hs (.eq (.elem (.static "java/lang/Integer" "DigitTens" "[B") (.int 78)) (.int 55)) (by decide +kernel)) | 79, _ => exact va_eqt (hs (.eq (.elem (.static "java/lang/Integer" "DigitTens" "[B") (.int 79)) (.int 55)) (by decide +kernel)) | 80, _ => exact va_eqt (hs (.eq (.elem (.static "java/lang/Integer" "DigitTens" "[B") (.int 80)) (.int 56)) (by decide +kernel)) | 81, _ => exact va_eqt (hs (.eq (.elem (.static "java/lang/Integer" "DigitTens" "[B") (.int 81)) (.int 56)) (by decide +kernel)) | 82, _ => exact va_eqt (hs (.eq (.elem (.static "java/lang/Integer" "DigitTens" "[B") (.int 82)) (.int 56)) (by decide +kernel)) | 83, _ => exact va_eqt (hs (.eq (.elem (.static "java/lang/Integer" "DigitTens" "[B") (.int 83)) (.int 56)) (by decide +kernel)) | 84, _ => exact va_eqt (hs (.eq (.elem (.static "java/lang/Integer" "DigitTens" "[B") (.int 84)) (.int 56)) (by decide +kernel)) | 85, _ => exact va_eqt (hs (.eq (.elem (.static "java/lang/Integer" "DigitTens" "[B") (.int 85)) (.int 56)) (by decide +kernel)) | 86, _ => exact va_eqt (hs (.eq (.elem (.static "java/lang/Integer" "DigitTens" "[B") (.int 86)) (.int 56)) (by decide +kernel)) | 87, _ => exact va_eqt (hs (.eq (.elem (.static "java/lang/Integer" "DigitTens" "[B") (.int 87)) (.int 56)) (by decide +kernel)) | 88, _ => exact va_eqt (hs (.eq (.elem (.static "java/lang/Integer" "DigitTens" "[B") (.int 88)) (.int 56)) (by decide +kernel)) | 89, _ => exact va_eqt (hs (.eq (.elem (.static "java/lang/Integer" "DigitTens" "[B") (.int 89)) (.int 56)) (by decide +kernel)) | 90, _ => exact va_eqt (hs (.eq (.elem (.static "java/lang/Integer" "DigitTens" "[B") (.int 90)) (.int 57)) (by decide +kernel)) | 91, _ => exact va_eqt (hs (.eq (.elem (.static "java/lang/Integer" "DigitTens" "[B") (.int 91)) (.int 57)) (by decide +kernel)) | 92, _ => exact va_eqt (hs (.eq (.elem (.static "java/lang/Integer" "DigitTens" "[B") (.int 92)) (.int 57)) (by decide +kernel)) | 93, _ => exact va_eqt (hs (.eq (.elem (.static "java/lang/Integer" "DigitTens" "[B") (.int 93)) (.int 57)) (by decide +kernel)) | 94, _ => exact va_eqt (hs (.eq (.elem (.static "java/lang/Integer" "DigitTens" "[B") (.int 94)) (.int 57)) (by decide +kernel)) | 95, _ => exact va_eqt (hs (.eq (.elem (.static "java/lang/Integer" "DigitTens" "[B") (.int 95)) (.int 57)) (by decide +kernel)) | 96, _ => exact va_eqt (hs (.eq (.elem (.static "java/lang/Integer" "DigitTens" "[B") (.int 96)) (.int 57)) (by decide +kernel)) | 97, _ => exact va_eqt (hs (.eq (.elem (.static "java/lang/Integer" "DigitTens" "[B") (.int 97)) (.int 57)) (by decide +kernel)) | 98, _ => exact va_eqt (hs (.eq (.elem (.static "java/lang/Integer" "DigitTens" "[B") (.int 98)) (.int 57)) (by decide +kernel)) | 99, _ => exact va_eqt (hs (.eq (.elem (.static "java/lang/Integer" "DigitTens" "[B") (.int 99)) (.int 57)) (by decide +kernel)) | k + 100, h9 => exact absurd h9 (by omega)) hA_lt
  exact ⟨t, va_Zref (hts _ (tb3 (List.mem_of_getElem? (i := 186) rfl))) (E0 hts kw_73) ht hA_lt, hT⟩
set_option maxRecDepth 100000 in
theorem st_C (hts : ∀ w ∈ lw_tbl, w.before args s = true) (hgv : (Jvm.Cond.and given_1 narrow_1).before args s = true) : ∃ (t : Nat) (bx : Nat → Nat), va_Z "java/lang/Integer$IntegerCache" "cache" "[Ljava/lang/Integer;" (.ref t) (hA s.heap.size) s s.heap ∧ va_T (.object "java/lang/Integer") t 256 (fun j => .ref (bx j)) (hA s.heap.size) s s.heap ∧ vb_C bx (hA s.heap.size) s s.heap := by
  have hs := flat_of_before _ hgv
  have hlen := va_eqt (hs (.eq (.length (.static "java/lang/Integer$IntegerCache" "cache" "[Ljava/lang/Integer;")) (.int 256)) (by decide +kernel))
  obtain ⟨bx, hC, hel⟩ := vb_Cof (A := hA s.heap.size) (st := (.static "java/lang/Integer$IntegerCache" "cache" "[Ljava/lang/Integer;")) rfl hlen (hs (.all (.static "java/lang/Integer$IntegerCache" "cache" "[Ljava/lang/Integer;") (.and (.exactly (.elem (.static "java/lang/Integer$IntegerCache" "cache" "[Ljava/lang/Integer;") (.index 0)) "java/lang/Integer") (.eq (.field (.elem (.static "java/lang/Integer$IntegerCache" "cache" "[Ljava/lang/Integer;") (.index 0)) "java/lang/Integer" "value" "I") (.sub (.index 0) (.int 128))))) (by decide +kernel)) hA_lt
  obtain ⟨t, ht, hT⟩ := va_Tof (tm := (.static "java/lang/Integer$IntegerCache" "cache" "[Ljava/lang/Integer;")) (ty := .object "java/lang/Integer") (N := 256) (f := fun j => .ref (bx j)) (A := hA s.heap.size) (by decide) (hs (.arrayOf (.static "java/lang/Integer$IntegerCache" "cache" "[Ljava/lang/Integer;") (.object "java/lang/Integer")) (by decide +kernel)) hlen hel hA_lt
  exact ⟨t, bx, va_Zref (hts _ (tb6 (List.mem_of_getElem? (i := 165) rfl))) (E0 hts kw_81) ht hA_lt, hT, hC⟩
set_option maxRecDepth 100000 in
theorem st_A (hts : ∀ w ∈ lw_tbl, w.before args s = true) (hgv : (Jvm.Cond.and given_1 narrow_1).before args s = true) : ∃ t : Nat, va_Z "java/util/ArrayList" "DEFAULTCAPACITY_EMPTY_ELEMENTDATA" "[Ljava/lang/Object;" (.ref t) (hA s.heap.size) s s.heap ∧ va_T (.object "java/lang/Object") t 0 (fun _ => .null) (hA s.heap.size) s s.heap := by
  have hs := flat_of_before _ hgv
  obtain ⟨t, ht, hT⟩ := va_Tof (tm := (.static "java/util/ArrayList" "DEFAULTCAPACITY_EMPTY_ELEMENTDATA" "[Ljava/lang/Object;")) (ty := .object "java/lang/Object") (N := 0) (f := fun _ => .null) (A := hA s.heap.size) (by decide) (hs (.arrayOf (.static "java/util/ArrayList" "DEFAULTCAPACITY_EMPTY_ELEMENTDATA" "[Ljava/lang/Object;") (.object "java/lang/Object")) (by decide +kernel)) (va_eqt (hs (.eq (.length (.static "java/util/ArrayList" "DEFAULTCAPACITY_EMPTY_ELEMENTDATA" "[Ljava/lang/Object;")) (.int 0)) (by decide +kernel))) (fun j hj => absurd hj (Nat.not_lt_zero j)) hA_lt
  exact ⟨t, va_Zref (hts _ (tb2 (List.mem_of_getElem? (i := 235) rfl))) (E0 hts kw_61) ht hA_lt, hT⟩
theorem z_ofref {v : Value} {C n d : String} {A : Nat → Prop} (h : vx_Zq C n d A s s.heap) : ∃ o : Option Nat, va_Z C n d (va_rf o) A s s.heap := by
  rcases h.1 with h | ⟨t, h⟩
  · exact ⟨none, h⟩
  · exact ⟨some t, h⟩
set_option maxRecDepth 100000 in
theorem st_Q (hts : ∀ w ∈ lw_tbl, w.before args s = true) (hgv : (Jvm.Cond.and given_1 narrow_1).before args s = true) : ∃ o : Option Nat, va_Z "jdk/internal/util/Preconditions" "SIOOBE_FORMATTER" "Ljava/util/function/BiFunction;" (va_rf o) (hA s.heap.size) s s.heap := by
  have hs := flat_of_before _ hgv
  exact z_ofref (v := .null) (vx_Zqof (hts _ (tb3 (List.mem_of_getElem? (i := 114) rfl))) (E0 hts kw_70) (hs (.isRef (.static "jdk/internal/util/Preconditions" "SIOOBE_FORMATTER" "Ljava/util/function/BiFunction;")) (by decide +kernel)) hA_lt)
set_option maxRecDepth 100000 in
theorem st_E {l : Launch} (hts : ∀ w ∈ lw_tbl, w.before args s = true) (hgv : (Jvm.Cond.and given_1 narrow_1).before args s = true) {bb L : Nat} {xs : Nat → Int32} (hX9 : va_X bb L xs s s.heap) (hbl : bb < s.heap.size) (hL : L ≤ 260) : ∃ (D : va_G) (cy : Nat → ClassId) (ad : Nat → Nat), hE l D cy ad s.heap.size s ∧ ad 465 = bb := by
  have hs := flat_of_before _ hgv
  obtain ⟨D, cy, hK⟩ := st_K hts
  obtain ⟨to, zo, bo⟩ := st_DigitOnes hts hgv
  obtain ⟨tt, zt, bt⟩ := st_DigitTens hts hgv
  obtain ⟨tc, bx, zc, ac, vc⟩ := st_C hts hgv
  obtain ⟨ta, za, aa⟩ := st_A hts hgv
  obtain ⟨adK, adV, vS, eS⟩ := st_S hts hgv
  obtain ⟨mi, hmi⟩ := va_Mi.of (hs (.isRef (.mirror "[Ljava/lang/Object;")) (by decide +kernel))
  obtain ⟨t0, h0⟩ := st_0 hts hgv
  obtain ⟨t1, h1⟩ := st_1 hts hgv
  obtain ⟨t2, h2⟩ := st_2 hts hgv
  obtain ⟨t3, h3⟩ := st_3 hts hgv
  obtain ⟨t4, h4⟩ := st_4 hts hgv
  obtain ⟨t5, h5⟩ := st_5 hts hgv
  obtain ⟨t6, h6⟩ := st_6 hts hgv
  obtain ⟨t7, h7⟩ := st_7 hts hgv
  obtain ⟨t8, h8⟩ := st_8 hts hgv
  obtain ⟨t9, h9⟩ := st_9 hts hgv
  obtain ⟨t10, h10⟩ := st_10 hts hgv
  obtain ⟨t11, h11⟩ := st_11 hts hgv
  obtain ⟨t12, h12⟩ := st_12 hts hgv
  obtain ⟨t13, h13⟩ := st_13 hts hgv
  obtain ⟨ad, had⟩ : ∃ ad : Nat → Nat, ad = fun k => if k < 200 then [t0, t1, t2, t3, t4, t5, t6, t7, t8, t9, t10, t11, t12, t13].getD (k - 100) 0 else if k < 460 then bx (k - 200) else if k = 460 then tc else if k = 461 then ta else if k = 462 then to else if k = 463 then tt else if k = 464 then mi else if k = 465 then bb else if k = 466 then L else if k < 480 then adK (k - 470) else if k < 10000 then adV (k - 480) else (xs (k - 10000)).toUInt32.toNat := ⟨_, rfl⟩
  have e200 : ∀ j, j < 256 → ad (200 + j) = bx j := fun j hj => by rw [had]; show (if 200 + j < 200 then _ else if 200 + j < 460 then bx (200 + j - 200) else _) = _; rw [if_neg (by omega), if_pos (by omega), Nat.add_sub_cancel_left]
  have e470 : ∀ j, j < 9 → ad (470 + j) = adK j := fun j hj => by rw [had]; show (if 470 + j < 200 then _ else if 470 + j < 460 then _ else if 470 + j = 460 then _ else if 470 + j = 461 then _ else if 470 + j = 462 then _ else if 470 + j = 463 then _ else if 470 + j = 464 then _ else if 470 + j = 465 then _ else if 470 + j = 466 then _ else if 470 + j < 480 then adK (470 + j - 470) else _) = _; rw [if_neg (by omega), if_neg (by omega), if_neg (by omega), if_neg (by omega), if_neg (by omega), if_neg (by omega), if_neg (by omega), if_neg (by omega), if_neg (by omega), if_pos (by omega), Nat.add_sub_cancel_left]
  have e480 : ∀ j, j < 9 → ad (480 + j) = adV j := fun j hj => by rw [had]; show (if 480 + j < 200 then _ else if 480 + j < 460 then _ else if 480 + j = 460 then _ else if 480 + j = 461 then _ else if 480 + j = 462 then _ else if 480 + j = 463 then _ else if 480 + j = 464 then _ else if 480 + j = 465 then _ else if 480 + j = 466 then _ else if 480 + j < 480 then _ else if 480 + j < 10000 then adV (480 + j - 480) else _) = _; rw [if_neg (by omega), if_neg (by omega), if_neg (by omega), if_neg (by omega), if_neg (by omega), if_neg (by omega), if_neg (by omega), if_neg (by omega), if_neg (by omega), if_neg (by omega), if_pos (by omega), Nat.add_sub_cancel_left]
  have e10k : ∀ j, Int32.ofNat (ad (10000 + j)) = xs j := fun j => by
    have e1 : ad (10000 + j) = (xs j).toUInt32.toNat := by rw [had]; show (if 10000 + j < 200 then _ else if 10000 + j < 460 then _ else if 10000 + j = 460 then _ else if 10000 + j = 461 then _ else if 10000 + j = 462 then _ else if 10000 + j = 463 then _ else if 10000 + j = 464 then _ else if 10000 + j = 465 then _ else if 10000 + j = 466 then _ else if 10000 + j < 480 then _ else if 10000 + j < 10000 then _ else (xs (10000 + j - 10000)).toUInt32.toNat) = _; rw [if_neg (by omega), if_neg (by omega), if_neg (by omega), if_neg (by omega), if_neg (by omega), if_neg (by omega), if_neg (by omega), if_neg (by omega), if_neg (by omega), if_neg (by omega), if_neg (by omega), Nat.add_sub_cancel_left]
    rw [e1]
    exact x_u32 (xs j)
  have e460 : ad 460 = tc := by rw [had]; rfl
  have e461 : ad 461 = ta := by rw [had]; rfl
  have e462 : ad 462 = to := by rw [had]; rfl
  have e463 : ad 463 = tt := by rw [had]; rfl
  have e464 : ad 464 = mi := by rw [had]; rfl
  have e465 : ad 465 = bb := by rw [had]; rfl
  have e466 : ad 466 = L := by rw [had]; rfl
  refine ⟨D, cy, ad, ⟨⟨hK, fun w hw a => word_at (State.WarmedH.refl s) (good_of_word hw.2) (hts w hw.1), fun i hi => ?_, st_N hts⟩, st_hN hts, Nat.le_refl _, ?_⟩, e465⟩
  · match i, hi with
    | 0, _ => exact h0 _ (by rw [had]; rfl)
    | 1, _ => exact h1 _ (by rw [had]; rfl)
    | 2, _ => exact h2 _ (by rw [had]; rfl)
    | 3, _ => exact h3 _ (by rw [had]; rfl)
    | 4, _ => exact h4 _ (by rw [had]; rfl)
    | 5, _ => exact h5 _ (by rw [had]; rfl)
    | 6, _ => exact h6 _ (by rw [had]; rfl)
    | 7, _ => exact h7 _ (by rw [had]; rfl)
    | 8, _ => exact h8 _ (by rw [had]; rfl)
    | 9, _ => exact h9 _ (by rw [had]; rfl)
    | 10, _ => exact h10 _ (by rw [had]; rfl)
    | 11, _ => exact h11 _ (by rw [had]; rfl)
    | 12, _ => exact h12 _ (by rw [had]; rfl)
    | 13, _ => exact h13 _ (by rw [had]; rfl)
    | k + 14, h => exact absurd h (by omega)
  · have f2 : (fun j => Int32.ofNat (ad (10000 + j))) = xs := funext e10k
    unfold hZ hX
    rw [e460, e461, e462, e463, e464, e465, e466, f2]
    refine ⟨va_Zof (hts _ (tb6 (List.mem_of_getElem? (i := 163) rfl))) (E0 hts kw_81) (va_eqt (hs (.eq (.static "java/lang/Integer$IntegerCache" "high" "I") (.int 127)) (by decide +kernel))) hA_lt, zc, T_cg ac (fun j hj => by rw [e200 j hj]), C_cg vc e200, za, aa, va_Zof (hts _ (tb3 (List.mem_of_getElem? (i := 30) rfl))) (E0 hts kw_64) (va_eqt (hs (.eq (.static "java/lang/String" "COMPACT_STRINGS" "Z") (.int 1)) (by decide +kernel))) hA_lt, S_cg vS e470 e480, fun i hi => ?_, zo, bo, zt, bt, st_P hts, va_tabs (A := args) (A' := #[]) (u := s) (U := s) rfl rfl (hts _ (tb3 (List.mem_of_getElem? (i := 90) rfl))), hmi, va_Dc.of (hts _ (tb7 (List.mem_of_getElem? (i := 91) rfl))), st_Q hts hgv, hX9, hbl, by omega⟩
    rw [e470 i hi]
    match i, hi with
    | 0, _ => exact vk_R.of (A := args) (hts _ (tb3 (List.mem_of_getElem? (i := 51) rfl))) (eS 0 (by decide))
    | 1, _ => exact vk_R.of (A := args) (hts _ (tb3 (List.mem_of_getElem? (i := 195) rfl))) (eS 1 (by decide))
    | 2, _ => exact vk_R.of (A := args) (hts _ (tb4 (List.mem_of_getElem? (i := 16) rfl))) (eS 2 (by decide))
    | 3, _ => exact vk_R.of (A := args) (hts _ (tb4 (List.mem_of_getElem? (i := 39) rfl))) (eS 3 (by decide))
    | 4, _ => exact vk_R.of (A := args) (hts _ (tb4 (List.mem_of_getElem? (i := 43) rfl))) (eS 4 (by decide))
    | 5, _ => exact vk_R.of (A := args) (hts _ (tb4 (List.mem_of_getElem? (i := 45) rfl))) (eS 5 (by decide))
    | 6, _ => exact vk_R.of (A := args) (hts _ (tb4 (List.mem_of_getElem? (i := 98) rfl))) (eS 6 (by decide))
    | 7, _ => exact vk_R.of (A := args) (hts _ (tb4 (List.mem_of_getElem? (i := 99) rfl))) (eS 7 (by decide))
    | 8, _ => exact vk_R.of (A := args) (hts _ (tb4 (List.mem_of_getElem? (i := 100) rfl))) (eS 8 (by decide))
    | k + 9, h => exact absurd h (by omega)
end START

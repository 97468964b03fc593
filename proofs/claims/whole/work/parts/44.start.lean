theorem arrK {args : Array Value} {s : State} {ty : FieldType} (h : (Cond.arrayClass ty).before args s = true) : ∃ (cA : ClassId) (kA : Class) (comp : ClassId), s.vm.findClass ("[" ++ ty.toString) = some cA ∧ s.vm.classes[cA]? = some kA ∧ kA.kind = .array comp ty := by
  have h2 : (Cond.arrayClass ty).value args s none s [] = some true := by
    unfold Cond.before Cond.holds at h
    exact eq_of_beq h
  simp only [Cond.value] at h2
  cases e1 : s.vm.findClass ("[" ++ ty.toString) with
  | none => rw [e1] at h2; cases h2
  | some cA =>
    rw [e1] at h2
    cases e2 : s.vm.classes[cA]? with
    | none => simp [e2] at h2
    | some kA =>
      cases e3 : kA.kind with
      | array comp t2 =>
        simp [e2, e3] at h2
        exact ⟨cA, kA, comp, rfl, e2, by rw [e3, h2]⟩
      | _ => simp [e2, e3] at h2
theorem arrK2 {args : Array Value} {s : State} {ty : FieldType} (h : (Cond.arrayClass ty).before args s = true) (hp : ∀ cA, s.vm.findClass ("[" ++ ty.toString) = some cA → va_RA s cA ty) : ∃ cA : ClassId, ArrOfT s cA ty ∧ va_RA s cA ty := by
  obtain ⟨cA, kA, comp, h1, h2, h3⟩ := arrK h
  exact ⟨cA, fun n z => ⟨fun k h => (by cases h), kA, h2, comp, h3⟩, hp cA h1⟩
section START
variable {s : State} {args : Array Value}
theorem E0 (hts : ∀ w ∈ lw_tbl, w.before args s = true) {w : Cond} (h : gw w) : w.before args s = true := hts w h.1
set_option maxRecDepth 100000 in
theorem st_0 (hts : ∀ w ∈ lw_tbl, w.before args s = true) (hgv : (Jvm.Cond.and given_1 narrow_1).before args s = true) : ∃ t : Nat, ∀ ad : Nat → Nat, ad (100 + 0) = t → gStA 0 ad s.heap.size s s.heap := by
  have hs := flat_of_before _ hgv
  have hA : ∀ a : Nat, a < s.heap.size → ¬ gA s.heap.size a := fun a h => Nat.not_le.mpr h
  obtain ⟨t, ht, hT⟩ := va_Tof (tm := (.static "LevelNetwork" "LEAST_NUMBER" "[I")) (ty := .int) (N := 4) (f := fun j => .int (sc 0 j)) (A := gA s.heap.size) (by decide) (hs (.arrayOf (.static "LevelNetwork" "LEAST_NUMBER" "[I") .int) (by decide +kernel)) (va_eqt (hs (.eq (.length (.static "LevelNetwork" "LEAST_NUMBER" "[I")) (.int 4)) (by decide +kernel))) (fun j hj => by match j, hj with | 0, _ => exact va_eqt (hs (.eq (.elem (.static "LevelNetwork" "LEAST_NUMBER" "[I") (.int 0)) (.int 0)) (by decide +kernel)) | 1, _ => exact va_eqt (hs (.eq (.elem (.static "LevelNetwork" "LEAST_NUMBER" "[I") (.int 1)) (.int 0)) (by decide +kernel)) | 2, _ => exact va_eqt (hs (.eq (.elem (.static "LevelNetwork" "LEAST_NUMBER" "[I") (.int 2)) (.int 1)) (by decide +kernel)) | 3, _ => exact va_eqt (hs (.eq (.elem (.static "LevelNetwork" "LEAST_NUMBER" "[I") (.int 3)) (.int 1)) (by decide +kernel)) | k + 4, h9 => exact absurd h9 (by omega)) hA
  refine ⟨t, fun ad e => ⟨?_, ?_⟩⟩
  · rw [e]
    exact va_Zref (hts (.laysStatic "LevelNetwork" "LEAST_NUMBER" "[I") (List.mem_of_getElem? (i := 588) rfl)) (E0 hts kw_106) ht hA
  · rw [e]
    exact hT
set_option maxRecDepth 100000 in
theorem st_1 (hts : ∀ w ∈ lw_tbl, w.before args s = true) (hgv : (Jvm.Cond.and given_1 narrow_1).before args s = true) : ∃ t : Nat, ∀ ad : Nat → Nat, ad (100 + 1) = t → gStA 1 ad s.heap.size s s.heap := by
  have hs := flat_of_before _ hgv
  have hA : ∀ a : Nat, a < s.heap.size → ¬ gA s.heap.size a := fun a h => Nat.not_le.mpr h
  obtain ⟨t, ht, hT⟩ := va_Tof (tm := (.static "LevelNetwork" "GREATEST_NUMBER" "[I")) (ty := .int) (N := 4) (f := fun j => .int (sc 1 j)) (A := gA s.heap.size) (by decide) (hs (.arrayOf (.static "LevelNetwork" "GREATEST_NUMBER" "[I") .int) (by decide +kernel)) (va_eqt (hs (.eq (.length (.static "LevelNetwork" "GREATEST_NUMBER" "[I")) (.int 4)) (by decide +kernel))) (fun j hj => by match j, hj with | 0, _ => exact va_eqt (hs (.eq (.elem (.static "LevelNetwork" "GREATEST_NUMBER" "[I") (.int 0)) (.int 40000)) (by decide +kernel)) | 1, _ => exact va_eqt (hs (.eq (.elem (.static "LevelNetwork" "GREATEST_NUMBER" "[I") (.int 1)) (.int 40000)) (by decide +kernel)) | 2, _ => exact va_eqt (hs (.eq (.elem (.static "LevelNetwork" "GREATEST_NUMBER" "[I") (.int 2)) (.int 100)) (by decide +kernel)) | 3, _ => exact va_eqt (hs (.eq (.elem (.static "LevelNetwork" "GREATEST_NUMBER" "[I") (.int 3)) (.int 100)) (by decide +kernel)) | k + 4, h9 => exact absurd h9 (by omega)) hA
  refine ⟨t, fun ad e => ⟨?_, ?_⟩⟩
  · rw [e]
    exact va_Zref (hts (.laysStatic "LevelNetwork" "GREATEST_NUMBER" "[I") (List.mem_of_getElem? (i := 590) rfl)) (E0 hts kw_106) ht hA
  · rw [e]
    exact hT
set_option maxRecDepth 100000 in
theorem st_2 (hts : ∀ w ∈ lw_tbl, w.before args s = true) (hgv : (Jvm.Cond.and given_1 narrow_1).before args s = true) : ∃ t : Nat, ∀ ad : Nat → Nat, ad (100 + 2) = t → gStA 2 ad s.heap.size s s.heap := by
  have hs := flat_of_before _ hgv
  have hA : ∀ a : Nat, a < s.heap.size → ¬ gA s.heap.size a := fun a h => Nat.not_le.mpr h
  obtain ⟨t, ht, hT⟩ := va_Tof (tm := (.static "LevelNetwork" "LEAST_SETTING" "[I")) (ty := .int) (N := 3) (f := fun j => .int (sc 2 j)) (A := gA s.heap.size) (by decide) (hs (.arrayOf (.static "LevelNetwork" "LEAST_SETTING" "[I") .int) (by decide +kernel)) (va_eqt (hs (.eq (.length (.static "LevelNetwork" "LEAST_SETTING" "[I")) (.int 3)) (by decide +kernel))) (fun j hj => by match j, hj with | 0, _ => exact va_eqt (hs (.eq (.elem (.static "LevelNetwork" "LEAST_SETTING" "[I") (.int 0)) (.int 0)) (by decide +kernel)) | 1, _ => exact va_eqt (hs (.eq (.elem (.static "LevelNetwork" "LEAST_SETTING" "[I") (.int 1)) (.int 1)) (by decide +kernel)) | 2, _ => exact va_eqt (hs (.eq (.elem (.static "LevelNetwork" "LEAST_SETTING" "[I") (.int 2)) (.int 0)) (by decide +kernel)) | k + 3, h9 => exact absurd h9 (by omega)) hA
  refine ⟨t, fun ad e => ⟨?_, ?_⟩⟩
  · rw [e]
    exact va_Zref (hts (.laysStatic "LevelNetwork" "LEAST_SETTING" "[I") (List.mem_of_getElem? (i := 604) rfl)) (E0 hts kw_106) ht hA
  · rw [e]
    exact hT
set_option maxRecDepth 100000 in
theorem st_3 (hts : ∀ w ∈ lw_tbl, w.before args s = true) (hgv : (Jvm.Cond.and given_1 narrow_1).before args s = true) : ∃ t : Nat, ∀ ad : Nat → Nat, ad (100 + 3) = t → gStA 3 ad s.heap.size s s.heap := by
  have hs := flat_of_before _ hgv
  have hA : ∀ a : Nat, a < s.heap.size → ¬ gA s.heap.size a := fun a h => Nat.not_le.mpr h
  obtain ⟨t, ht, hT⟩ := va_Tof (tm := (.static "LevelNetwork" "GREATEST_SETTING" "[I")) (ty := .int) (N := 3) (f := fun j => .int (sc 3 j)) (A := gA s.heap.size) (by decide) (hs (.arrayOf (.static "LevelNetwork" "GREATEST_SETTING" "[I") .int) (by decide +kernel)) (va_eqt (hs (.eq (.length (.static "LevelNetwork" "GREATEST_SETTING" "[I")) (.int 3)) (by decide +kernel))) (fun j hj => by match j, hj with | 0, _ => exact va_eqt (hs (.eq (.elem (.static "LevelNetwork" "GREATEST_SETTING" "[I") (.int 0)) (.int 500)) (by decide +kernel)) | 1, _ => exact va_eqt (hs (.eq (.elem (.static "LevelNetwork" "GREATEST_SETTING" "[I") (.int 1)) (.int 100)) (by decide +kernel)) | 2, _ => exact va_eqt (hs (.eq (.elem (.static "LevelNetwork" "GREATEST_SETTING" "[I") (.int 2)) (.int 800)) (by decide +kernel)) | k + 3, h9 => exact absurd h9 (by omega)) hA
  refine ⟨t, fun ad e => ⟨?_, ?_⟩⟩
  · rw [e]
    exact va_Zref (hts (.laysStatic "LevelNetwork" "GREATEST_SETTING" "[I") (List.mem_of_getElem? (i := 606) rfl)) (E0 hts kw_106) ht hA
  · rw [e]
    exact hT
set_option maxRecDepth 100000 in
theorem st_4 (hts : ∀ w ∈ lw_tbl, w.before args s = true) (hgv : (Jvm.Cond.and given_1 narrow_1).before args s = true) : ∃ t : Nat, ∀ ad : Nat → Nat, ad (100 + 4) = t → gStA 4 ad s.heap.size s s.heap := by
  have hs := flat_of_before _ hgv
  have hA : ∀ a : Nat, a < s.heap.size → ¬ gA s.heap.size a := fun a h => Nat.not_le.mpr h
  obtain ⟨t, ht, hT⟩ := va_Tof (tm := (.static "LevelNetwork" "INITIAL_SETTING" "[I")) (ty := .int) (N := 3) (f := fun j => .int (sc 4 j)) (A := gA s.heap.size) (by decide) (hs (.arrayOf (.static "LevelNetwork" "INITIAL_SETTING" "[I") .int) (by decide +kernel)) (va_eqt (hs (.eq (.length (.static "LevelNetwork" "INITIAL_SETTING" "[I")) (.int 3)) (by decide +kernel))) (fun j hj => by match j, hj with | 0, _ => exact va_eqt (hs (.eq (.elem (.static "LevelNetwork" "INITIAL_SETTING" "[I") (.int 0)) (.int 40)) (by decide +kernel)) | 1, _ => exact va_eqt (hs (.eq (.elem (.static "LevelNetwork" "INITIAL_SETTING" "[I") (.int 1)) (.int 60)) (by decide +kernel)) | 2, _ => exact va_eqt (hs (.eq (.elem (.static "LevelNetwork" "INITIAL_SETTING" "[I") (.int 2)) (.int 20)) (by decide +kernel)) | k + 3, h9 => exact absurd h9 (by omega)) hA
  refine ⟨t, fun ad e => ⟨?_, ?_⟩⟩
  · rw [e]
    exact va_Zref (hts (.laysStatic "LevelNetwork" "INITIAL_SETTING" "[I") (List.mem_of_getElem? (i := 351) rfl)) (E0 hts kw_106) ht hA
  · rw [e]
    exact hT
set_option maxRecDepth 100000 in
theorem st_5 (hts : ∀ w ∈ lw_tbl, w.before args s = true) (hgv : (Jvm.Cond.and given_1 narrow_1).before args s = true) : ∃ t : Nat, ∀ ad : Nat → Nat, ad (100 + 5) = t → gStA 5 ad s.heap.size s s.heap := by
  have hs := flat_of_before _ hgv
  have hA : ∀ a : Nat, a < s.heap.size → ¬ gA s.heap.size a := fun a h => Nat.not_le.mpr h
  obtain ⟨t, ht, hT⟩ := va_Tof (tm := (.static "LevelNetwork$TextReader" "LEVEL_WORD" "[C")) (ty := .char) (N := 5) (f := fun j => .int (sc 5 j)) (A := gA s.heap.size) (by decide) (hs (.arrayOf (.static "LevelNetwork$TextReader" "LEVEL_WORD" "[C") .char) (by decide +kernel)) (va_eqt (hs (.eq (.length (.static "LevelNetwork$TextReader" "LEVEL_WORD" "[C")) (.int 5)) (by decide +kernel))) (fun j hj => by match j, hj with | 0, _ => exact va_eqt (hs (.eq (.elem (.static "LevelNetwork$TextReader" "LEVEL_WORD" "[C") (.int 0)) (.int 108)) (by decide +kernel)) | 1, _ => exact va_eqt (hs (.eq (.elem (.static "LevelNetwork$TextReader" "LEVEL_WORD" "[C") (.int 1)) (.int 101)) (by decide +kernel)) | 2, _ => exact va_eqt (hs (.eq (.elem (.static "LevelNetwork$TextReader" "LEVEL_WORD" "[C") (.int 2)) (.int 118)) (by decide +kernel)) | 3, _ => exact va_eqt (hs (.eq (.elem (.static "LevelNetwork$TextReader" "LEVEL_WORD" "[C") (.int 3)) (.int 101)) (by decide +kernel)) | 4, _ => exact va_eqt (hs (.eq (.elem (.static "LevelNetwork$TextReader" "LEVEL_WORD" "[C") (.int 4)) (.int 108)) (by decide +kernel)) | k + 5, h9 => exact absurd h9 (by omega)) hA
  refine ⟨t, fun ad e => ⟨?_, ?_⟩⟩
  · rw [e]
    exact va_Zref (hts (.laysStatic "LevelNetwork$TextReader" "LEVEL_WORD" "[C") (List.mem_of_getElem? (i := 518) rfl)) (E0 hts kw_107) ht hA
  · rw [e]
    exact hT
set_option maxRecDepth 100000 in
theorem st_6 (hts : ∀ w ∈ lw_tbl, w.before args s = true) (hgv : (Jvm.Cond.and given_1 narrow_1).before args s = true) : ∃ t : Nat, ∀ ad : Nat → Nat, ad (100 + 6) = t → gStA 6 ad s.heap.size s s.heap := by
  have hs := flat_of_before _ hgv
  have hA : ∀ a : Nat, a < s.heap.size → ¬ gA s.heap.size a := fun a h => Nat.not_le.mpr h
  obtain ⟨t, ht, hT⟩ := va_Tof (tm := (.static "LevelNetwork$TextReader" "DOWN_WORD" "[C")) (ty := .char) (N := 4) (f := fun j => .int (sc 6 j)) (A := gA s.heap.size) (by decide) (hs (.arrayOf (.static "LevelNetwork$TextReader" "DOWN_WORD" "[C") .char) (by decide +kernel)) (va_eqt (hs (.eq (.length (.static "LevelNetwork$TextReader" "DOWN_WORD" "[C")) (.int 4)) (by decide +kernel))) (fun j hj => by match j, hj with | 0, _ => exact va_eqt (hs (.eq (.elem (.static "LevelNetwork$TextReader" "DOWN_WORD" "[C") (.int 0)) (.int 100)) (by decide +kernel)) | 1, _ => exact va_eqt (hs (.eq (.elem (.static "LevelNetwork$TextReader" "DOWN_WORD" "[C") (.int 1)) (.int 111)) (by decide +kernel)) | 2, _ => exact va_eqt (hs (.eq (.elem (.static "LevelNetwork$TextReader" "DOWN_WORD" "[C") (.int 2)) (.int 119)) (by decide +kernel)) | 3, _ => exact va_eqt (hs (.eq (.elem (.static "LevelNetwork$TextReader" "DOWN_WORD" "[C") (.int 3)) (.int 110)) (by decide +kernel)) | k + 4, h9 => exact absurd h9 (by omega)) hA
  refine ⟨t, fun ad e => ⟨?_, ?_⟩⟩
  · rw [e]
    exact va_Zref (hts (.laysStatic "LevelNetwork$TextReader" "DOWN_WORD" "[C") (List.mem_of_getElem? (i := 540) rfl)) (E0 hts kw_107) ht hA
  · rw [e]
    exact hT
set_option maxRecDepth 100000 in
theorem st_7 (hts : ∀ w ∈ lw_tbl, w.before args s = true) (hgv : (Jvm.Cond.and given_1 narrow_1).before args s = true) : ∃ t : Nat, ∀ ad : Nat → Nat, ad (100 + 7) = t → gStA 7 ad s.heap.size s s.heap := by
  have hs := flat_of_before _ hgv
  have hA : ∀ a : Nat, a < s.heap.size → ¬ gA s.heap.size a := fun a h => Nat.not_le.mpr h
  obtain ⟨t, ht, hT⟩ := va_Tof (tm := (.static "LevelNetwork$TextReader" "POINT_WORD" "[C")) (ty := .char) (N := 5) (f := fun j => .int (sc 7 j)) (A := gA s.heap.size) (by decide) (hs (.arrayOf (.static "LevelNetwork$TextReader" "POINT_WORD" "[C") .char) (by decide +kernel)) (va_eqt (hs (.eq (.length (.static "LevelNetwork$TextReader" "POINT_WORD" "[C")) (.int 5)) (by decide +kernel))) (fun j hj => by match j, hj with | 0, _ => exact va_eqt (hs (.eq (.elem (.static "LevelNetwork$TextReader" "POINT_WORD" "[C") (.int 0)) (.int 112)) (by decide +kernel)) | 1, _ => exact va_eqt (hs (.eq (.elem (.static "LevelNetwork$TextReader" "POINT_WORD" "[C") (.int 1)) (.int 111)) (by decide +kernel)) | 2, _ => exact va_eqt (hs (.eq (.elem (.static "LevelNetwork$TextReader" "POINT_WORD" "[C") (.int 2)) (.int 105)) (by decide +kernel)) | 3, _ => exact va_eqt (hs (.eq (.elem (.static "LevelNetwork$TextReader" "POINT_WORD" "[C") (.int 3)) (.int 110)) (by decide +kernel)) | 4, _ => exact va_eqt (hs (.eq (.elem (.static "LevelNetwork$TextReader" "POINT_WORD" "[C") (.int 4)) (.int 116)) (by decide +kernel)) | k + 5, h9 => exact absurd h9 (by omega)) hA
  refine ⟨t, fun ad e => ⟨?_, ?_⟩⟩
  · rw [e]
    exact va_Zref (hts (.laysStatic "LevelNetwork$TextReader" "POINT_WORD" "[C") (List.mem_of_getElem? (i := 542) rfl)) (E0 hts kw_107) ht hA
  · rw [e]
    exact hT
set_option maxRecDepth 100000 in
theorem st_8 (hts : ∀ w ∈ lw_tbl, w.before args s = true) (hgv : (Jvm.Cond.and given_1 narrow_1).before args s = true) : ∃ t : Nat, ∀ ad : Nat → Nat, ad (100 + 8) = t → gStA 8 ad s.heap.size s s.heap := by
  have hs := flat_of_before _ hgv
  have hA : ∀ a : Nat, a < s.heap.size → ¬ gA s.heap.size a := fun a h => Nat.not_le.mpr h
  obtain ⟨t, ht, hT⟩ := va_Tof (tm := (.static "LevelNetwork$TextReader" "LINE_WORD" "[C")) (ty := .char) (N := 4) (f := fun j => .int (sc 8 j)) (A := gA s.heap.size) (by decide) (hs (.arrayOf (.static "LevelNetwork$TextReader" "LINE_WORD" "[C") .char) (by decide +kernel)) (va_eqt (hs (.eq (.length (.static "LevelNetwork$TextReader" "LINE_WORD" "[C")) (.int 4)) (by decide +kernel))) (fun j hj => by match j, hj with | 0, _ => exact va_eqt (hs (.eq (.elem (.static "LevelNetwork$TextReader" "LINE_WORD" "[C") (.int 0)) (.int 108)) (by decide +kernel)) | 1, _ => exact va_eqt (hs (.eq (.elem (.static "LevelNetwork$TextReader" "LINE_WORD" "[C") (.int 1)) (.int 105)) (by decide +kernel)) | 2, _ => exact va_eqt (hs (.eq (.elem (.static "LevelNetwork$TextReader" "LINE_WORD" "[C") (.int 2)) (.int 110)) (by decide +kernel)) | 3, _ => exact va_eqt (hs (.eq (.elem (.static "LevelNetwork$TextReader" "LINE_WORD" "[C") (.int 3)) (.int 101)) (by decide +kernel)) | k + 4, h9 => exact absurd h9 (by omega)) hA
  refine ⟨t, fun ad e => ⟨?_, ?_⟩⟩
  · rw [e]
    exact va_Zref (hts (.laysStatic "LevelNetwork$TextReader" "LINE_WORD" "[C") (List.mem_of_getElem? (i := 544) rfl)) (E0 hts kw_107) ht hA
  · rw [e]
    exact hT
set_option maxRecDepth 100000 in
theorem st_9 (hts : ∀ w ∈ lw_tbl, w.before args s = true) (hgv : (Jvm.Cond.and given_1 narrow_1).before args s = true) : ∃ t : Nat, ∀ ad : Nat → Nat, ad (100 + 9) = t → gStA 9 ad s.heap.size s s.heap := by
  have hs := flat_of_before _ hgv
  have hA : ∀ a : Nat, a < s.heap.size → ¬ gA s.heap.size a := fun a h => Nat.not_le.mpr h
  obtain ⟨t, ht, hT⟩ := va_Tof (tm := (.static "LevelNetwork$TextReader" "TEST_WORD" "[C")) (ty := .char) (N := 4) (f := fun j => .int (sc 9 j)) (A := gA s.heap.size) (by decide) (hs (.arrayOf (.static "LevelNetwork$TextReader" "TEST_WORD" "[C") .char) (by decide +kernel)) (va_eqt (hs (.eq (.length (.static "LevelNetwork$TextReader" "TEST_WORD" "[C")) (.int 4)) (by decide +kernel))) (fun j hj => by match j, hj with | 0, _ => exact va_eqt (hs (.eq (.elem (.static "LevelNetwork$TextReader" "TEST_WORD" "[C") (.int 0)) (.int 116)) (by decide +kernel)) | 1, _ => exact va_eqt (hs (.eq (.elem (.static "LevelNetwork$TextReader" "TEST_WORD" "[C") (.int 1)) (.int 101)) (by decide +kernel)) | 2, _ => exact va_eqt (hs (.eq (.elem (.static "LevelNetwork$TextReader" "TEST_WORD" "[C") (.int 2)) (.int 115)) (by decide +kernel)) | 3, _ => exact va_eqt (hs (.eq (.elem (.static "LevelNetwork$TextReader" "TEST_WORD" "[C") (.int 3)) (.int 116)) (by decide +kernel)) | k + 4, h9 => exact absurd h9 (by omega)) hA
  refine ⟨t, fun ad e => ⟨?_, ?_⟩⟩
  · rw [e]
    exact va_Zref (hts (.laysStatic "LevelNetwork$TextReader" "TEST_WORD" "[C") (List.mem_of_getElem? (i := 546) rfl)) (E0 hts kw_107) ht hA
  · rw [e]
    exact hT
set_option maxRecDepth 100000 in
theorem st_10 (hts : ∀ w ∈ lw_tbl, w.before args s = true) (hgv : (Jvm.Cond.and given_1 narrow_1).before args s = true) : ∃ t : Nat, ∀ ad : Nat → Nat, ad (100 + 10) = t → gStA 10 ad s.heap.size s s.heap := by
  have hs := flat_of_before _ hgv
  have hA : ∀ a : Nat, a < s.heap.size → ¬ gA s.heap.size a := fun a h => Nat.not_le.mpr h
  obtain ⟨t, ht, hT⟩ := va_Tof (tm := (.static "LevelNetwork$TextReader" "SET_WORD" "[C")) (ty := .char) (N := 3) (f := fun j => .int (sc 10 j)) (A := gA s.heap.size) (by decide) (hs (.arrayOf (.static "LevelNetwork$TextReader" "SET_WORD" "[C") .char) (by decide +kernel)) (va_eqt (hs (.eq (.length (.static "LevelNetwork$TextReader" "SET_WORD" "[C")) (.int 3)) (by decide +kernel))) (fun j hj => by match j, hj with | 0, _ => exact va_eqt (hs (.eq (.elem (.static "LevelNetwork$TextReader" "SET_WORD" "[C") (.int 0)) (.int 115)) (by decide +kernel)) | 1, _ => exact va_eqt (hs (.eq (.elem (.static "LevelNetwork$TextReader" "SET_WORD" "[C") (.int 1)) (.int 101)) (by decide +kernel)) | 2, _ => exact va_eqt (hs (.eq (.elem (.static "LevelNetwork$TextReader" "SET_WORD" "[C") (.int 2)) (.int 116)) (by decide +kernel)) | k + 3, h9 => exact absurd h9 (by omega)) hA
  refine ⟨t, fun ad e => ⟨?_, ?_⟩⟩
  · rw [e]
    exact va_Zref (hts (.laysStatic "LevelNetwork$TextReader" "SET_WORD" "[C") (List.mem_of_getElem? (i := 548) rfl)) (E0 hts kw_107) ht hA
  · rw [e]
    exact hT
set_option maxRecDepth 100000 in
theorem st_11 (hts : ∀ w ∈ lw_tbl, w.before args s = true) (hgv : (Jvm.Cond.and given_1 narrow_1).before args s = true) : ∃ t : Nat, ∀ ad : Nat → Nat, ad (100 + 11) = t → gStA 11 ad s.heap.size s s.heap := by
  have hs := flat_of_before _ hgv
  have hA : ∀ a : Nat, a < s.heap.size → ¬ gA s.heap.size a := fun a h => Nat.not_le.mpr h
  obtain ⟨t, ht, hT⟩ := va_Tof (tm := (.static "LevelNetwork$TextReader" "TOLERANCE_WORD" "[C")) (ty := .char) (N := 9) (f := fun j => .int (sc 11 j)) (A := gA s.heap.size) (by decide) (hs (.arrayOf (.static "LevelNetwork$TextReader" "TOLERANCE_WORD" "[C") .char) (by decide +kernel)) (va_eqt (hs (.eq (.length (.static "LevelNetwork$TextReader" "TOLERANCE_WORD" "[C")) (.int 9)) (by decide +kernel))) (fun j hj => by match j, hj with | 0, _ => exact va_eqt (hs (.eq (.elem (.static "LevelNetwork$TextReader" "TOLERANCE_WORD" "[C") (.int 0)) (.int 116)) (by decide +kernel)) | 1, _ => exact va_eqt (hs (.eq (.elem (.static "LevelNetwork$TextReader" "TOLERANCE_WORD" "[C") (.int 1)) (.int 111)) (by decide +kernel)) | 2, _ => exact va_eqt (hs (.eq (.elem (.static "LevelNetwork$TextReader" "TOLERANCE_WORD" "[C") (.int 2)) (.int 108)) (by decide +kernel)) | 3, _ => exact va_eqt (hs (.eq (.elem (.static "LevelNetwork$TextReader" "TOLERANCE_WORD" "[C") (.int 3)) (.int 101)) (by decide +kernel)) | 4, _ => exact va_eqt (hs (.eq (.elem (.static "LevelNetwork$TextReader" "TOLERANCE_WORD" "[C") (.int 4)) (.int 114)) (by decide +kernel)) | 5, _ => exact va_eqt (hs (.eq (.elem (.static "LevelNetwork$TextReader" "TOLERANCE_WORD" "[C") (.int 5)) (.int 97)) (by decide +kernel)) | 6, _ => exact va_eqt (hs (.eq (.elem (.static "LevelNetwork$TextReader" "TOLERANCE_WORD" "[C") (.int 6)) (.int 110)) (by decide +kernel)) | 7, _ => exact va_eqt (hs (.eq (.elem (.static "LevelNetwork$TextReader" "TOLERANCE_WORD" "[C") (.int 7)) (.int 99)) (by decide +kernel)) | 8, _ => exact va_eqt (hs (.eq (.elem (.static "LevelNetwork$TextReader" "TOLERANCE_WORD" "[C") (.int 8)) (.int 101)) (by decide +kernel)) | k + 9, h9 => exact absurd h9 (by omega)) hA
  refine ⟨t, fun ad e => ⟨?_, ?_⟩⟩
  · rw [e]
    exact va_Zref (hts (.laysStatic "LevelNetwork$TextReader" "TOLERANCE_WORD" "[C") (List.mem_of_getElem? (i := 600) rfl)) (E0 hts kw_107) ht hA
  · rw [e]
    exact hT
set_option maxRecDepth 100000 in
theorem st_12 (hts : ∀ w ∈ lw_tbl, w.before args s = true) (hgv : (Jvm.Cond.and given_1 narrow_1).before args s = true) : ∃ t : Nat, ∀ ad : Nat → Nat, ad (100 + 12) = t → gStA 12 ad s.heap.size s s.heap := by
  have hs := flat_of_before _ hgv
  have hA : ∀ a : Nat, a < s.heap.size → ¬ gA s.heap.size a := fun a h => Nat.not_le.mpr h
  obtain ⟨t, ht, hT⟩ := va_Tof (tm := (.static "LevelNetwork$TextReader" "SIGHT_WORD" "[C")) (ty := .char) (N := 5) (f := fun j => .int (sc 12 j)) (A := gA s.heap.size) (by decide) (hs (.arrayOf (.static "LevelNetwork$TextReader" "SIGHT_WORD" "[C") .char) (by decide +kernel)) (va_eqt (hs (.eq (.length (.static "LevelNetwork$TextReader" "SIGHT_WORD" "[C")) (.int 5)) (by decide +kernel))) (fun j hj => by match j, hj with | 0, _ => exact va_eqt (hs (.eq (.elem (.static "LevelNetwork$TextReader" "SIGHT_WORD" "[C") (.int 0)) (.int 115)) (by decide +kernel)) | 1, _ => exact va_eqt (hs (.eq (.elem (.static "LevelNetwork$TextReader" "SIGHT_WORD" "[C") (.int 1)) (.int 105)) (by decide +kernel)) | 2, _ => exact va_eqt (hs (.eq (.elem (.static "LevelNetwork$TextReader" "SIGHT_WORD" "[C") (.int 2)) (.int 103)) (by decide +kernel)) | 3, _ => exact va_eqt (hs (.eq (.elem (.static "LevelNetwork$TextReader" "SIGHT_WORD" "[C") (.int 3)) (.int 104)) (by decide +kernel)) | 4, _ => exact va_eqt (hs (.eq (.elem (.static "LevelNetwork$TextReader" "SIGHT_WORD" "[C") (.int 4)) (.int 116)) (by decide +kernel)) | k + 5, h9 => exact absurd h9 (by omega)) hA
  refine ⟨t, fun ad e => ⟨?_, ?_⟩⟩
  · rw [e]
    exact va_Zref (hts (.laysStatic "LevelNetwork$TextReader" "SIGHT_WORD" "[C") (List.mem_of_getElem? (i := 550) rfl)) (E0 hts kw_107) ht hA
  · rw [e]
    exact hT
set_option maxRecDepth 100000 in
theorem st_13 (hts : ∀ w ∈ lw_tbl, w.before args s = true) (hgv : (Jvm.Cond.and given_1 narrow_1).before args s = true) : ∃ t : Nat, ∀ ad : Nat → Nat, ad (100 + 13) = t → gStA 13 ad s.heap.size s s.heap := by
  have hs := flat_of_before _ hgv
  have hA : ∀ a : Nat, a < s.heap.size → ¬ gA s.heap.size a := fun a h => Nat.not_le.mpr h
  obtain ⟨t, ht, hT⟩ := va_Tof (tm := (.static "LevelNetwork$TextReader" "BALANCE_WORD" "[C")) (ty := .char) (N := 7) (f := fun j => .int (sc 13 j)) (A := gA s.heap.size) (by decide) (hs (.arrayOf (.static "LevelNetwork$TextReader" "BALANCE_WORD" "[C") .char) (by decide +kernel)) (va_eqt (hs (.eq (.length (.static "LevelNetwork$TextReader" "BALANCE_WORD" "[C")) (.int 7)) (by decide +kernel))) (fun j hj => by match j, hj with | 0, _ => exact va_eqt (hs (.eq (.elem (.static "LevelNetwork$TextReader" "BALANCE_WORD" "[C") (.int 0)) (.int 98)) (by decide +kernel)) | 1, _ => exact va_eqt (hs (.eq (.elem (.static "LevelNetwork$TextReader" "BALANCE_WORD" "[C") (.int 1)) (.int 97)) (by decide +kernel)) | 2, _ => exact va_eqt (hs (.eq (.elem (.static "LevelNetwork$TextReader" "BALANCE_WORD" "[C") (.int 2)) (.int 108)) (by decide +kernel)) | 3, _ => exact va_eqt (hs (.eq (.elem (.static "LevelNetwork$TextReader" "BALANCE_WORD" "[C") (.int 3)) (.int 97)) (by decide +kernel)) | 4, _ => exact va_eqt (hs (.eq (.elem (.static "LevelNetwork$TextReader" "BALANCE_WORD" "[C") (.int 4)) (.int 110)) (by decide +kernel)) | 5, _ => exact va_eqt (hs (.eq (.elem (.static "LevelNetwork$TextReader" "BALANCE_WORD" "[C") (.int 5)) (.int 99)) (by decide +kernel)) | 6, _ => exact va_eqt (hs (.eq (.elem (.static "LevelNetwork$TextReader" "BALANCE_WORD" "[C") (.int 6)) (.int 101)) (by decide +kernel)) | k + 7, h9 => exact absurd h9 (by omega)) hA
  refine ⟨t, fun ad e => ⟨?_, ?_⟩⟩
  · rw [e]
    exact va_Zref (hts (.laysStatic "LevelNetwork$TextReader" "BALANCE_WORD" "[C") (List.mem_of_getElem? (i := 602) rfl)) (E0 hts kw_107) ht hA
  · rw [e]
    exact hT
set_option maxRecDepth 100000 in
theorem st_K (hts : ∀ w ∈ lw_tbl, w.before args s = true) : ∃ (D : va_G) (cy : Nat → ClassId), va_K D vwCl (gT cy) s := by
  obtain ⟨cX0, iX0, kX0⟩ := u_known (C := RX0) (T := TX0) (N := 8) (n := 8) hts (fun w hw => (gC_X0.2.1 w hw).1) (E0 hts kw_275)
  obtain ⟨cX1, iX1, kX1⟩ := u_known (C := RX1) (T := TX1) (N := 7) (n := 7) hts (fun w hw => (gC_X1.2.1 w hw).1) (E0 hts kw_311)
  obtain ⟨cX2, iX2, kX2⟩ := u_known (C := RX2) (T := TX2) (N := 10) (n := 10) hts (fun w hw => (gC_X2.2.1 w hw).1) (E0 hts kw_194)
  obtain ⟨cX3, iX3, kX3⟩ := u_known (C := RX3) (T := TX3) (N := 17) (n := 17) hts (fun w hw => (gC_X3.2.1 w hw).1) (E0 hts kw_341)
  obtain ⟨cX4, iX4, kX4⟩ := u_known (C := RX4) (T := TX4) (N := 10) (n := 10) hts (fun w hw => (gC_X4.2.1 w hw).1) (E0 hts kw_131)
  obtain ⟨cX5, iX5, kX5⟩ := u_known (C := RX5) (T := TX5) (N := 7) (n := 7) hts (fun w hw => (gC_X5.2.1 w hw).1) (E0 hts kw_200)
  obtain ⟨cX6, iX6, kX6⟩ := u_known (C := RX6) (T := TX6) (N := 4) (n := 4) hts (fun w hw => (gC_X6.2.1 w hw).1) (E0 hts kw_171)
  obtain ⟨cX7, iX7, kX7⟩ := u_known (C := RX7) (T := TX7) (N := 8) (n := 8) hts (fun w hw => (gC_X7.2.1 w hw).1) (E0 hts kw_123)
  obtain ⟨cX8, iX8, kX8⟩ := u_known (C := RX8) (T := TX8) (N := 36) (n := 36) hts (fun w hw => (gC_X8.2.1 w hw).1) (E0 hts kw_1234)
  obtain ⟨a0, p0, q0⟩ := arrK2 (E0 hts kw_192) (fun cA h => h)
  obtain ⟨a1, p1, q1⟩ := arrK2 (E0 hts kw_309) (fun cA h => h)
  obtain ⟨a2, p2, q2⟩ := arrK2 (E0 hts kw_169) (fun cA h => h)
  obtain ⟨a3, p3, q3⟩ := arrK2 (E0 hts kw_339) (fun cA h => h)
  refine ⟨(fun k => if k = 0 then cX0 else if k = 1 then cX1 else if k = 2 then cX2 else if k = 3 then cX3 else if k = 4 then cX4 else if k = 5 then cX5 else if k = 6 then cX6 else if k = 7 then cX7 else cX8, fun k => if k = 0 then iX0 else if k = 1 then iX1 else if k = 2 then iX2 else if k = 3 then iX3 else if k = 4 then iX4 else if k = 5 then iX5 else if k = 6 then iX6 else if k = 7 then iX7 else iX8), fun k => if k = 0 then a0 else if k = 1 then a1 else if k = 2 then a2 else a3, ?_, ?_⟩
  · intro k q hq
    match k, hq with
    | 0, hq => cases hq; exact kX0
    | 1, hq => cases hq; exact kX1
    | 2, hq => cases hq; exact kX2
    | 3, hq => cases hq; exact kX3
    | 4, hq => cases hq; exact kX4
    | 5, hq => cases hq; exact kX5
    | 6, hq => cases hq; exact kX6
    | 7, hq => cases hq; exact kX7
    | 8, hq => cases hq; exact kX8
    | k + 9, hq => simp [vwCl] at hq
  · intro k q hq
    match k, hq with
    | 0, hq => cases hq; exact ⟨p0, q0⟩
    | 1, hq => cases hq; exact ⟨p1, q1⟩
    | 2, hq => cases hq; exact ⟨p2, q2⟩
    | 3, hq => cases hq; exact ⟨p3, q3⟩
    | k + 4, hq => simp [gT] at hq
set_option maxRecDepth 100000 in
theorem st_N (hts : ∀ w ∈ lw_tbl, w.before args s = true) : gNest s :=
  ⟨va_tabs (A := args) (A' := #[]) (u := s) (U := s) rfl rfl (hts _ (List.mem_of_getElem? (i := 849) rfl)), va_tabs (A := args) (A' := #[]) (u := s) (U := s) rfl rfl (hts _ (List.mem_of_getElem? (i := 350) rfl)), va_tabs (A := args) (A' := #[]) (u := s) (U := s) rfl rfl (hts _ (List.mem_of_getElem? (i := 587) rfl)), va_tabs (A := args) (A' := #[]) (u := s) (U := s) rfl rfl (hts _ (List.mem_of_getElem? (i := 589) rfl)), va_tabs (A := args) (A' := #[]) (u := s) (U := s) rfl rfl (hts _ (List.mem_of_getElem? (i := 603) rfl)), va_tabs (A := args) (A' := #[]) (u := s) (U := s) rfl rfl (hts _ (List.mem_of_getElem? (i := 605) rfl))⟩
set_option maxRecDepth 100000 in
theorem st_NI (hts : ∀ w ∈ lw_tbl, w.before args s = true) : gNI s := by
  intro w hw
  simp only [gNIl, List.mem_cons, List.not_mem_nil, or_false] at hw
  rcases hw with rfl | rfl | rfl | rfl | rfl | rfl
  · exact va_tabs (A := args) (A' := #[]) (u := s) (U := s) rfl rfl (hts _ (List.mem_of_getElem? (i := 132) rfl))
  · exact va_tabs (A := args) (A' := #[]) (u := s) (U := s) rfl rfl (hts _ (List.mem_of_getElem? (i := 172) rfl))
  · exact va_tabs (A := args) (A' := #[]) (u := s) (U := s) rfl rfl (hts _ (List.mem_of_getElem? (i := 195) rfl))
  · exact va_tabs (A := args) (A' := #[]) (u := s) (U := s) rfl rfl (hts _ (List.mem_of_getElem? (i := 201) rfl))
  · exact va_tabs (A := args) (A' := #[]) (u := s) (U := s) rfl rfl (hts _ (List.mem_of_getElem? (i := 276) rfl))
  · exact va_tabs (A := args) (A' := #[]) (u := s) (U := s) rfl rfl (hts _ (List.mem_of_getElem? (i := 312) rfl))
set_option maxRecDepth 100000 in
theorem st_T {l : Launch} (hflags : l.flags = flags0) (hts : ∀ w ∈ lw_tbl, w.before args s = true) (hgv : (Jvm.Cond.and given_1 narrow_1).before args s = true) : gThr l s.heap.size s := by
  have hs := flat_of_before _ hgv
  have hA : ∀ a : Nat, a < s.heap.size → ¬ gA s.heap.size a := fun a h => Nat.not_le.mpr h
  refine ⟨by unfold Launch.stackTraces; rw [hflags]; decide +kernel, ?_, ?_, ?_, ?_⟩
  · exact vx_Zqof (hts _ (List.mem_of_getElem? (i := 965) rfl)) (hts (.initialized "java/lang/Throwable") (List.mem_of_getElem? (i := 115) rfl)) (hs (.isRef (.static "java/lang/Throwable" "UNASSIGNED_STACK" "[Ljava/lang/StackTraceElement;")) (by decide +kernel)) hA
  · exact vx_Zqof (hts _ (List.mem_of_getElem? (i := 967) rfl)) (hts (.initialized "java/lang/Throwable") (List.mem_of_getElem? (i := 115) rfl)) (hs (.isRef (.static "java/lang/Throwable" "SUPPRESSED_SENTINEL" "Ljava/util/List;")) (by decide +kernel)) hA
  · obtain ⟨a, c, cA, kA, q1, -⟩ := Cond.exactly_spec (args := args) (first := s) (o := none) (s := s) (idx := []) (t := .string "LevelNetwork" 330) (cls := "java/lang/String") (hs (.exactly (.string "LevelNetwork" 330) "java/lang/String") (by decide +kernel))
    have h9 : vk_R RX7 330 "no such index" a s := vk_R.of (A := args) (hts _ (List.mem_of_getElem? (i := 977) rfl)) q1
    exact ⟨a, h9⟩
  · intro w hw
    simp only [gThrL, List.mem_cons, List.not_mem_nil, or_false] at hw
    rcases hw with rfl | rfl | rfl | rfl
    · exact va_tabs (A := args) (A' := #[]) (u := s) (U := s) rfl rfl (hts _ (List.mem_of_getElem? (i := 942) rfl))
    · exact va_tabs (A := args) (A' := #[]) (u := s) (U := s) rfl rfl (hts _ (List.mem_of_getElem? (i := 944) rfl))
    · exact va_tabs (A := args) (A' := #[]) (u := s) (U := s) rfl rfl (hts _ (List.mem_of_getElem? (i := 946) rfl))
    · exact va_tabs (A := args) (A' := #[]) (u := s) (U := s) rfl rfl (hts _ (List.mem_of_getElem? (i := 940) rfl))
theorem st_E {l : Launch} (hflags : l.flags = flags0) (hts : ∀ w ∈ lw_tbl, w.before args s = true) (hgv : (Jvm.Cond.and given_1 narrow_1).before args s = true) : ∃ (D : va_G) (cy : Nat → ClassId) (ad : Nat → Nat), gEnv l D cy ad s.heap.size s := by
  obtain ⟨D, cy, hK⟩ := st_K hts
  obtain ⟨t0, h0⟩ := st_0 hts hgv
  obtain ⟨t1, h1⟩ := st_1 hts hgv
  obtain ⟨t2, h2⟩ := st_2 hts hgv
  obtain ⟨t3, h3⟩ := st_3 hts hgv
  obtain ⟨t4, h4⟩ := st_4 hts hgv
  obtain ⟨t5, h5⟩ := st_5 hts hgv
  obtain ⟨t6, h6⟩ := st_6 hts hgv
  obtain ⟨t7, h7⟩ := st_7 hts hgv
  obtain ⟨t8, h8⟩ := st_8 hts hgv
  obtain ⟨t9, h9⟩ := st_9 hts hgv
  obtain ⟨t10, h10⟩ := st_10 hts hgv
  obtain ⟨t11, h11⟩ := st_11 hts hgv
  obtain ⟨t12, h12⟩ := st_12 hts hgv
  obtain ⟨t13, h13⟩ := st_13 hts hgv
  refine ⟨D, cy, fun k => [t0, t1, t2, t3, t4, t5, t6, t7, t8, t9, t10, t11, t12, t13].getD (k - 100) 0, hK, fun w hw a => word_at (State.WarmedH.refl s) (good_of_word hw.2) (hts w hw.1), fun i hi => ?_, st_N hts, st_T hflags hts hgv⟩
  match i, hi with
  | 0, _ => exact h0 _ rfl
  | 1, _ => exact h1 _ rfl
  | 2, _ => exact h2 _ rfl
  | 3, _ => exact h3 _ rfl
  | 4, _ => exact h4 _ rfl
  | 5, _ => exact h5 _ rfl
  | 6, _ => exact h6 _ rfl
  | 7, _ => exact h7 _ rfl
  | 8, _ => exact h8 _ rfl
  | 9, _ => exact h9 _ rfl
  | 10, _ => exact h10 _ rfl
  | 11, _ => exact h11 _ rfl
  | 12, _ => exact h12 _ rfl
  | 13, _ => exact h13 _ rfl
  | k + 14, h => exact absurd h (by omega)
end START

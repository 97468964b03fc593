/-! what the law's Net holds: the numbers in ν by a number of the cell, the addresses in la -/
def lHv (la : Nat → Nat → Nat) (ν : gM) : Value := if gi ν 0 10 = 0 then .null else .ref (la 9 0)
def lLn (ν : gM) : Nat := (gi ν 0 2).toNatClampNeg
def lPt (ν : gM) : Nat := (gi ν 0 1).toNatClampNeg
/-- how many lists the list of lists has -/
def lLs (ν : gM) : Nat := (gi ν 6 2).toNatClampNeg
def lSz (ν : gM) (k : Nat) : Nat := (gi ν (40 + k) 2).toNatClampNeg
/-- rows of references: the first n are there -/
def lRf (n : Nat) (f : Nat → Nat) : Nat → Option Nat := fun j => if j < n then some (f j) else none
def lO (ad : Nat → Nat) (la : Nat → Nat → Nat) (ν : gM) : va_E := .inr (8, [.ref (ad 0), .int (gi ν 0 1), .int (gi ν 0 2), .ref (la 1 0), .ref (la 2 0), .ref (la 3 0), .ref (la 4 0), .ref (la 5 0), .ref (la 6 0), .ref (la 8 0), lHv la ν, .int (gi ν 0 11)])
def lIt (c : Nat) (r mc : Int32) (al : Nat) : va_E := .inr (12, [.int (nI c), .int r, .int mc, .ref al])
/-- the cells that are there all the time, by a list -/
def lC1 (cy : Nat → ClassId) (ad : Nat → Nat) (la : Nat → Nat → Nat) (ν : gM) : va_W := [
  (la 0 0, lO ad la ν), (la 1 0, .inl (cy 0, 2, .inl (ν.1 1))), (la 2 0, .inl (cy 0, 16, .inl (ν.1 2))), (la 3 0, .inl (cy 5, lLn ν, .inr (.inr (.inr (.inr (lRf (lLn ν) (la 20))))))),
  (la 4 0, .inl (cy 0, lLn ν, .inl (ν.1 4))), (la 5 0, .inl (cy 3, lLn ν, .inl (ν.1 5))), (la 6 0, .inr (13, [.int (gi ν 6 0), .ref (la 7 0), .int (nI (lLs ν))])), (la 7 0, .inl (cy 4, (gi ν 7 0).toNatClampNeg, .inr (.inr (.inr (.inr (lRf (lLs ν) (la 40))))))),
  (la 8 0, .inl (cy 0, 3, .inl (ν.1 8)))]
/-- the cells of one line: its ends, its list and the list's row -/
def lC2 (cy : Nat → ClassId) (la : Nat → Nat → Nat) (ν : gM) (k : Nat) : va_W := [
  (la 20 k, .inl (cy 0, 2, .inl (ν.1 (20 + k)))), (la 40 k, .inr (13, [.int (gi ν (40 + k) 0), .ref (la 60 k), .int (nI (lSz ν k))])), (la 60 k, .inl (cy 4, 10, .inr (.inr (.inr (.inr (lRf (lSz ν k) (la (100 + k))))))))]
/-- the cells by keys: a kind and a place -/
def lE (cy : Nat → ClassId) (ad : Nat → Nat) (la : Nat → Nat → Nat) (ν : gM) (q : Nat × Nat) : va_E :=
  if q.1 = 0 then lO ad la ν else if q.1 = 1 then .inl (cy 0, 2, .inl (ν.1 1)) else if q.1 = 2 then .inl (cy 0, 16, .inl (ν.1 2)) else if q.1 = 3 then .inl (cy 5, lLn ν, .inr (.inr (.inr (.inr (lRf (lLn ν) (la 20)))))) else
  if q.1 = 4 then .inl (cy 0, lLn ν, .inl (ν.1 4)) else if q.1 = 5 then .inl (cy 3, lLn ν, .inl (ν.1 5)) else if q.1 = 6 then .inr (13, [.int (gi ν 6 0), .ref (if lLs ν = 0 then ad 461 else la 7 0), .int (nI (lLs ν))]) else if q.1 = 7 then .inl (cy 4, (gi ν 7 0).toNatClampNeg, .inr (.inr (.inr (.inr (lRf (lLs ν) (la 40)))))) else
  if q.1 = 8 then .inl (cy 0, 3, .inl (ν.1 8)) else if q.1 = 9 then .inl (cy 1, lPt ν, .inr (.inl (ν.2 9))) else if q.1 = 20 then .inl (cy 0, 2, .inl (ν.1 (20 + q.2))) else if q.1 = 40 then .inr (13, [.int (gi ν (40 + q.2) 0), .ref (if lSz ν q.2 = 0 then ad 461 else la 60 q.2), .int (nI (lSz ν q.2))]) else
  if q.1 = 60 then .inl (cy 4, 10, .inr (.inr (.inr (.inr (lRf (lSz ν q.2) (la (100 + q.2))))))) else .inl (cy 0, 4, .inl (ν.1 (100 + 8 * (q.1 - 100) + q.2)))
def lk1 : List (Nat × Nat) := [(0, 0), (1, 0), (2, 0), (3, 0), (4, 0), (5, 0), (6, 0), (8, 0)]
def lk2 (ν : gM) (k : Nat) : List (Nat × Nat) := (40, k) :: ((if lSz ν k = 0 then [] else [(60, k)]) ++ (List.range (lSz ν k)).map (fun i => (100 + k, i)))
def lk3 (ν : gM) : List (Nat × Nat) := if gi ν 0 10 = 0 then [] else [(9, 0)]
def lk4 (ν : gM) : List (Nat × Nat) := (if lLs ν = 0 then [] else [(7, 0)]) ++ (List.range (lLn ν)).map (fun k => (20, k))
def lkeys (ν : gM) : List (Nat × Nat) := lk1 ++ (lk4 ν ++ ((List.range (lLs ν)).flatMap (lk2 ν) ++ lk3 ν))
def lcell (cy : Nat → ClassId) (ad : Nat → Nat) (la : Nat → Nat → Nat) (ν : gM) (q : Nat × Nat) : Nat × va_E := (la q.1 q.2, lE cy ad la ν q)
def lws (cy : Nat → ClassId) (ad : Nat → Nat) (la : Nat → Nat → Nat) (ν : gM) : va_W := (lkeys ν).map (lcell cy ad la ν)
theorem lE_100 {cy : Nat → ClassId} {ad : Nat → Nat} {la : Nat → Nat → Nat} {ν : gM} {k i : Nat} : lE cy ad la ν (100 + k, i) = .inl (cy 0, 4, .inl (ν.1 (100 + 8 * k + i))) := by
  unfold lE
  rw [if_neg (by show ¬ 100 + k = _; omega), if_neg (by show ¬ 100 + k = _; omega), if_neg (by show ¬ 100 + k = _; omega), if_neg (by show ¬ 100 + k = _; omega), if_neg (by show ¬ 100 + k = _; omega), if_neg (by show ¬ 100 + k = _; omega), if_neg (by show ¬ 100 + k = _; omega), if_neg (by show ¬ 100 + k = _; omega), if_neg (by show ¬ 100 + k = _; omega), if_neg (by show ¬ 100 + k = _; omega), if_neg (by show ¬ 100 + k = _; omega), if_neg (by show ¬ 100 + k = _; omega), if_neg (by show ¬ 100 + k = _; omega)]
  show Sum.inl (cy 0, 4, Sum.inl (ν.1 (100 + 8 * (100 + k - 100) + i))) = _
  rw [Nat.add_sub_cancel_left]
theorem lkeys_mem {ν : gM} {q : Nat × Nat} : q ∈ lkeys ν ↔ (q.1 < 9 ∧ q.2 = 0 ∧ (q.1 = 7 → lLs ν ≠ 0)) ∨ (q.1 = 20 ∧ q.2 < lLn ν) ∨ ((q.1 = 40 ∨ (q.1 = 60 ∧ lSz ν q.2 ≠ 0)) ∧ q.2 < lLs ν) ∨ (100 ≤ q.1 ∧ q.1 - 100 < lLs ν ∧ q.2 < lSz ν (q.1 - 100)) ∨ (q = (9, 0) ∧ ¬ gi ν 0 10 = 0) := by
  obtain ⟨k, i⟩ := q
  unfold lkeys lk1
  rw [List.mem_append, List.mem_append, List.mem_append, List.mem_flatMap]
  have e3 : (k, i) ∈ lk3 ν ↔ ((k, i) = (9, 0) ∧ ¬ gi ν 0 10 = 0) := by
    unfold lk3
    by_cases h : gi ν 0 10 = 0
    · rw [if_pos h]; exact ⟨fun q => absurd q List.not_mem_nil, fun q => absurd h q.2⟩
    · rw [if_neg h]; exact ⟨fun q => ⟨List.mem_singleton.mp q, h⟩, fun q => List.mem_singleton.mpr q.1⟩
  have e4 : (k, i) ∈ lk4 ν ↔ ((k = 7 ∧ i = 0 ∧ lLs ν ≠ 0) ∨ (k = 20 ∧ i < lLn ν)) := by
    unfold lk4
    rw [List.mem_append, List.mem_map]
    have e5 : (k, i) ∈ (if lLs ν = 0 then [] else [((7 : Nat), (0 : Nat))]) ↔ (k = 7 ∧ i = 0 ∧ lLs ν ≠ 0) := by
      by_cases h : lLs ν = 0
      · rw [if_pos h]; exact ⟨fun q => absurd q List.not_mem_nil, fun q => absurd h q.2.2⟩
      · rw [if_neg h, List.mem_singleton, Prod.mk.injEq]; exact ⟨fun q => ⟨q.1, q.2, h⟩, fun q => ⟨q.1, q.2.1⟩⟩
    rw [e5]
    constructor
    · rintro (h | ⟨j, hj, e⟩)
      · exact Or.inl h
      · obtain ⟨e1, e2⟩ := Prod.mk.inj e
        exact Or.inr ⟨e1.symm, by rw [← e2]; exact List.mem_range.mp hj⟩
    · rintro (h | ⟨h1, h2⟩)
      · exact Or.inl h
      · exact Or.inr ⟨i, List.mem_range.mpr h2, by rw [h1]⟩
  have e2 : ∀ j, (k, i) ∈ lk2 ν j ↔ (k = 40 ∧ i = j) ∨ (k = 60 ∧ i = j ∧ lSz ν j ≠ 0) ∨ (k = 100 + j ∧ i < lSz ν j) := by
    intro j
    unfold lk2
    rw [List.mem_cons, List.mem_append, List.mem_map]
    have e5 : (k, i) ∈ (if lSz ν j = 0 then [] else [((60 : Nat), j)]) ↔ (k = 60 ∧ i = j ∧ lSz ν j ≠ 0) := by
      by_cases h : lSz ν j = 0
      · rw [if_pos h]; exact ⟨fun q => absurd q List.not_mem_nil, fun q => absurd h q.2.2⟩
      · rw [if_neg h, List.mem_singleton, Prod.mk.injEq]; exact ⟨fun q => ⟨q.1, q.2, h⟩, fun q => ⟨q.1, q.2.1⟩⟩
    rw [e5, Prod.mk.injEq]
    constructor
    · rintro (h | h | ⟨i2, hi2, e⟩)
      · exact Or.inl h
      · exact Or.inr (Or.inl h)
      · obtain ⟨e1, e2⟩ := Prod.mk.inj e
        exact Or.inr (Or.inr ⟨e1.symm, by rw [← e2]; exact List.mem_range.mp hi2⟩)
    · rintro (h | h | ⟨h1, h2⟩)
      · exact Or.inl h
      · exact Or.inr (Or.inl h)
      · exact Or.inr (Or.inr ⟨i, List.mem_range.mpr h2, by rw [h1]⟩)
  rw [e3, e4]
  constructor
  · rintro (h | (⟨h1, h2, h3⟩ | h) | ⟨j, hj, h⟩ | h)
    · left
      simp only [List.mem_cons, Prod.mk.injEq, List.not_mem_nil, or_false] at h
      show k < 9 ∧ i = 0 ∧ (k = 7 → lLs ν ≠ 0)
      exact ⟨by omega, by omega, fun e => by omega⟩
    · left
      exact ⟨by show k < 9; omega, h2, fun _ => h3⟩
    · exact Or.inr (Or.inl h)
    · have hj := List.mem_range.mp hj
      rcases (e2 j).mp h with ⟨h1, h2⟩ | ⟨h1, h2, h3⟩ | ⟨h1, h2⟩
      · exact Or.inr (Or.inr (Or.inl ⟨Or.inl h1, by show i < _; omega⟩))
      · exact Or.inr (Or.inr (Or.inl ⟨Or.inr ⟨h1, by show lSz ν i ≠ 0; rw [h2]; exact h3⟩, by show i < _; omega⟩))
      · subst h1
        refine Or.inr (Or.inr (Or.inr (Or.inl ?_)))
        show 100 ≤ 100 + j ∧ 100 + j - 100 < lLs ν ∧ i < lSz ν (100 + j - 100)
        rw [Nat.add_sub_cancel_left]
        exact ⟨by omega, hj, h2⟩
    · exact Or.inr (Or.inr (Or.inr (Or.inr h)))
  · rintro (⟨h1, h2, h3⟩ | h | ⟨h1, h2⟩ | ⟨h1, h2, h3⟩ | h)
    · have h1 : k < 9 := h1
      have h2 : i = 0 := h2
      have h3 : k = 7 → lLs ν ≠ 0 := h3
      by_cases e : k = 7
      · exact Or.inr (Or.inl (Or.inl ⟨e, h2, h3 e⟩))
      · left
        simp only [List.mem_cons, Prod.mk.injEq, List.not_mem_nil, or_false]
        omega
    · exact Or.inr (Or.inl (Or.inr h))
    · refine Or.inr (Or.inr (Or.inl ⟨i, List.mem_range.mpr h2, (e2 i).mpr ?_⟩))
      rcases h1 with h1 | ⟨h1, h3⟩
      · exact Or.inl ⟨h1, rfl⟩
      · exact Or.inr (Or.inl ⟨h1, rfl, h3⟩)
    · have h1 : 100 ≤ k := h1
      have h2 : k - 100 < lLs ν := h2
      exact Or.inr (Or.inr (Or.inl ⟨k - 100, List.mem_range.mpr h2, (e2 _).mpr (Or.inr (Or.inr ⟨by omega, h3⟩))⟩))
    · exact Or.inr (Or.inr (Or.inr h))
/-- the sizes are small; and the lists are full -/
def lS (ν : gM) : Prop := (lLn ν ≤ 11 ∧ gi ν 0 2 = nI (lLn ν)) ∧ (lPt ν ≤ 8 ∧ gi ν 0 1 = nI (lPt ν)) ∧ (lLs ν ≤ 11 ∧ lLs ν ≤ (gi ν 7 0).toNatClampNeg ∧ (gi ν 7 0).toNatClampNeg < 100 ∧ gi ν 6 2 = nI (lLs ν)) ∧ ∀ k, k < lLs ν → lSz ν k ≤ 8
def lF (ν : gM) : Prop := lLs ν = lLn ν ∧ 0 < lLn ν ∧ ∀ k, k < lLn ν → 0 < lSz ν k
def lY (cy : Nat → ClassId) (ad : Nat → Nat) (la : Nat → Nat → Nat) (ν : gM) (P : va_W) : Prop := (∀ x ∈ lws cy ad la ν, x ∈ P) ∧ (lLn ν ≤ 11 ∧ gi ν 0 2 = nI (lLn ν)) ∧ (lPt ν ≤ 8 ∧ gi ν 0 1 = nI (lPt ν)) ∧ (lLs ν ≤ 11 ∧ lLs ν ≤ (gi ν 7 0).toNatClampNeg ∧ (gi ν 7 0).toNatClampNeg < 100 ∧ gi ν 6 2 = nI (lLs ν)) ∧ (∀ k, k < lLs ν → lSz ν k ≤ 8) ∧ lF ν
theorem lY_of {cy : Nat → ClassId} {ad : Nat → Nat} {la : Nat → Nat → Nat} {ν : gM} {P : va_W} (h : ∀ x ∈ lws cy ad la ν, x ∈ P) (hs : lS ν) (hf : lF ν) : lY cy ad la ν P := ⟨h, hs.1, hs.2.1, hs.2.2.1, hs.2.2.2, hf⟩
theorem lY_self {cy : Nat → ClassId} {ad : Nat → Nat} {la : Nat → Nat → Nat} {ν : gM} (hs : lS ν) (hf : lF ν) : lY cy ad la ν (lws cy ad la ν) := lY_of (fun _ h => h) hs hf
section LY
variable {cy : Nat → ClassId} {ad : Nat → Nat} {la : Nat → Nat → Nat} {ν : gM} {P X : va_W}
theorem lY.app (h : lY cy ad la ν P) (X : va_W) : lY cy ad la ν (P ++ X) := ⟨fun x hx => List.mem_append_left _ (h.1 x hx), h.2⟩
theorem lws_m {q : Nat × Nat} (h : q ∈ lkeys ν) : lcell cy ad la ν q ∈ lws cy ad la ν := List.mem_map.mpr ⟨q, h, rfl⟩
theorem lY.sz (h : lY cy ad la ν P) {k : Nat} (hk : k < lLn ν) : k < lLs ν ∧ lSz ν k ≤ 8 ∧ lSz ν k ≠ 0 ∧ 0 < lSz ν k := by
  obtain ⟨-, -, -, -, h5, h6, -, h7⟩ := h
  have := h7 k hk
  exact ⟨by rw [h6]; exact hk, h5 k (by rw [h6]; exact hk), by omega, this⟩
theorem lY.ls (h : lY cy ad la ν P) : lLs ν = lLn ν ∧ lLs ν ≠ 0 := by
  obtain ⟨-, -, -, -, -, h6, h7, -⟩ := h
  exact ⟨h6, by omega⟩
theorem lY.c1 (h : lY cy ad la ν P) (i : Nat) {x : Nat × va_E} (hi : (lC1 cy ad la ν)[i]? = some x) : x ∈ P := by
  have h0 := (lY.ls h).2
  have e6 : lE cy ad la ν (6, 0) = .inr (13, [.int (gi ν 6 0), .ref (la 7 0), .int (nI (lLs ν))]) := by
    show Sum.inr (13, [Value.int (gi ν 6 0), .ref (if lLs ν = 0 then ad 461 else la 7 0), .int (nI (lLs ν))]) = _
    rw [if_neg h0]
  have hm := List.mem_of_getElem? hi
  unfold lC1 at hm
  simp only [List.mem_cons, List.not_mem_nil, or_false] at hm
  have hk : ∀ k, k < 9 → lcell cy ad la ν (k, 0) ∈ P := fun k hk => h.1 _ (lws_m (lkeys_mem.mpr (Or.inl ⟨hk, rfl, fun _ => h0⟩)))
  rcases hm with rfl | rfl | rfl | rfl | rfl | rfl | rfl | rfl | rfl
  · exact hk 0 (by decide)
  · exact hk 1 (by decide)
  · exact hk 2 (by decide)
  · exact hk 3 (by decide)
  · exact hk 4 (by decide)
  · exact hk 5 (by decide)
  · have := hk 6 (by decide)
    unfold lcell at this
    rw [e6] at this
    exact this
  · exact hk 7 (by decide)
  · exact hk 8 (by decide)
theorem lY.c2 (h : lY cy ad la ν P) {k : Nat} (hk : k < lLn ν) (i : Nat) {x : Nat × va_E} (hi : (lC2 cy la ν k)[i]? = some x) : x ∈ P := by
  obtain ⟨hs1, -, hs3, -⟩ := lY.sz h hk
  have e6 : lE cy ad la ν (40, k) = .inr (13, [.int (gi ν (40 + k) 0), .ref (la 60 k), .int (nI (lSz ν k))]) := by
    show Sum.inr (13, [Value.int (gi ν (40 + k) 0), .ref (if lSz ν k = 0 then ad 461 else la 60 k), .int (nI (lSz ν k))]) = _
    rw [if_neg hs3]
  have hm := List.mem_of_getElem? hi
  unfold lC2 at hm
  simp only [List.mem_cons, List.not_mem_nil, or_false] at hm
  rcases hm with rfl | rfl | rfl
  · exact h.1 _ (lws_m (q := (20, k)) (lkeys_mem.mpr (Or.inr (Or.inl ⟨rfl, hk⟩))))
  · have := h.1 _ (lws_m (cy := cy) (ad := ad) (la := la) (q := (40, k)) (lkeys_mem.mpr (Or.inr (Or.inr (Or.inl ⟨Or.inl rfl, hs1⟩)))))
    unfold lcell at this
    rw [e6] at this
    exact this
  · exact h.1 _ (lws_m (q := (60, k)) (lkeys_mem.mpr (Or.inr (Or.inr (Or.inl ⟨Or.inr ⟨rfl, hs3⟩, hs1⟩)))))
theorem lY.c3 (h : lY cy ad la ν P) {k i : Nat} (hk : k < lLn ν) (hi : i < lSz ν k) : (la (100 + k) i, .inl (cy 0, 4, .inl (ν.1 (100 + 8 * k + i)))) ∈ P := by
  have hk2 := (lY.sz h hk).1
  have h1 := h.1 _ (lws_m (cy := cy) (ad := ad) (la := la) (q := (100 + k, i)) (lkeys_mem.mpr (Or.inr (Or.inr (Or.inr (Or.inl ⟨by show 100 ≤ 100 + k; omega, by show 100 + k - 100 < _; omega, by show i < lSz ν (100 + k - 100); rw [Nat.add_sub_cancel_left]; exact hi⟩))))))
  unfold lcell at h1
  rw [lE_100] at h1
  exact h1
theorem lY.c4 (h : lY cy ad la ν P) (hh : ¬ gi ν 0 10 = 0) : (la 9 0, .inl (cy 1, lPt ν, .inr (.inl (ν.2 9)))) ∈ P := h.1 _ (lws_m (q := (9, 0)) (lkeys_mem.mpr (Or.inr (Or.inr (Or.inr (Or.inr ⟨rfl, hh⟩))))))
theorem lRf_in {n j : Nat} {f : Nat → Nat} (h : j < n) : lRf n f j = some (f j) := if_pos h
theorem gIn_n {i : Int32} {n : Nat} (h : gIn i n) : i.toNatClampNeg < n := h.2
theorem gIn_e {i : Int32} {n : Nat} (h : gIn i n) : i = nI i.toNatClampNeg := by
  obtain ⟨j, hj, e⟩ := nI_of (x := i) (Int32.not_lt.mpr h.1)
  rw [e, nI_clamp hj]
end LY
section LYC
variable {l : Launch} {D : va_G} {cy : Nat → ClassId} {ad : Nat → Nat} {b : Nat} {μ ν : gM} {P : va_W} {la : Nat → Nat → Nat}
theorem cl_get (hY : lY cy ad la ν P) {i : Int32} (hi : gIn i (lLn ν)) : Met l yJx4a65c_get_915e3 [.code yJx4a65c_get_915e3 cJx4a65c_get_915e3 2 (some (.object "java/lang/Object"))] ({ frames := 2, cells := 0, slots := 0, locals := 43 } : Room) (va_Pc [.ref (la 6 0), .int i] (hB l D cy ad b μ P [])) (hQ b (fun rv H => rv = some (.ref (la 40 i.toNatClampNeg)) ∧ hW D cy ad b μ P [] H)) 0 0 (hA b) := by
  have h := c_get (l := l) (D := D) (cy := cy) (ad := ad) (b := b) (μ := μ) (P := P) (hY.c1 6 rfl) (hY.c1 7 rfl) (by rw [(lY.ls hY).1]; exact hi.2) (by have := hY.2.2.2.1.1; omega) hY.2.2.2.1.2.1 (by have := hY.2.2.2.1.2.2.1; omega) (lRf_in (by rw [(lY.ls hY).1]; exact hi.2))
  rwa [← gIn_e hi] at h
theorem cl_size (hY : lY cy ad la ν P) {k : Nat} (hk : k < lLn ν) : Met l yJx4a65c_size_8abf5 [.code yJx4a65c_size_8abf5 cJx4a65c_size_8abf5 1 (some .int)] ({ frames := 0, cells := 0, slots := 0, locals := 0 } : Room) (va_Pc [.ref (la 40 k)] (hB l D cy ad b μ P [])) (hQ b (fun rv H => rv = some (.int (nI (lSz ν k))) ∧ hW D cy ad b μ P [] H)) 0 0 (hA b) := c_size (hY.c2 hk 1 rfl)
theorem cl_iter (hY : lY cy ad la ν P) {k : Nat} (hk : k < lLn ν) : Met l yJx4a65c_iterator_32c93 [.code yJx4a65c_iterator_32c93 cJx4a65c_iterator_32c93 1 (some (.object "java/util/Iterator"))] ({ frames := 2, cells := 1, slots := 4, locals := 51 } : Room) (va_Pc [.ref (la 40 k)] (hB l D cy ad b μ P [])) (hQ b (fun rv H => ∃ a, rv = some (.ref a) ∧ hW D cy ad b μ P [(a, lIt 0 (-1) (gi ν (40 + k) 0) (la 40 k))] H)) 1 4 (hA b) := c_iter (hY.c2 hk 1 rfl)
theorem cl_has (hY : lY cy ad la ν P) {k c : Nat} (hk : k < lLn ν) (hc : c ≤ lSz ν k) {a : Nat} {r : Int32} : Met l yJx35411_hasNext_aae02 [.code yJx35411_hasNext_aae02 cJx35411_hasNext_aae02 1 (some .boolean)] ({ frames := 0, cells := 0, slots := 0, locals := 0 } : Room) (va_Pc [.ref a] (hB l D cy ad b μ P [(a, lIt c r (gi ν (40 + k) 0) (la 40 k))])) (hQ b (fun rv H => rv = some (.int (b2i (decide (c < lSz ν k)))) ∧ hW D cy ad b μ P [(a, lIt c r (gi ν (40 + k) 0) (la 40 k))] H)) 0 0 (hA b) := by
  have h8 := (lY.sz hY hk).2.1
  by_cases h : c < lSz ν k
  · rw [decide_eq_true h]
    exact c_has1 (hY.c2 hk 1 rfl) h (by omega)
  · rw [decide_eq_false h]
    obtain rfl : c = lSz ν k := by omega
    exact c_has0 (hY.c2 hk 1 rfl)
theorem cl_next (hY : lY cy ad la ν P) {k c : Nat} (hk : k < lLn ν) (hc : c < lSz ν k) {a : Nat} {r : Int32} : Met l yJx35411_next_0502b [.code yJx35411_next_0502b cJx35411_next_0502b 3 (some (.object "java/lang/Object"))] ({ frames := 1, cells := 0, slots := 0, locals := 20 } : Room) (va_Pc [.ref a] (hB l D cy ad b μ P [(a, lIt c r (gi ν (40 + k) 0) (la 40 k))])) (hQ b (fun rv H => rv = some (.ref (la (100 + k) c)) ∧ hW D cy ad b μ P [(a, lIt (c + 1) (nI c) (gi ν (40 + k) 0) (la 40 k))] H)) 0 0 (hA b) :=
  c_next (hY.c2 hk 1 rfl) (hY.c2 hk 2 rfl) hc (by have := (lY.sz hY hk).2.1; omega) (by have := (lY.sz hY hk).2.1; omega) (by omega) (lRf_in hc)
end LYC

theorem cl_dqempty {l : Launch} {D : va_G} {cy : Nat → ClassId} {ad : Nat → Nat} {b : Nat} {μ : gM} {P : va_W} {a ae h t : Nat} {q : Nat → Nat} (hht : h ≤ t ∧ t < 17) : Met l yX10_isEmpty [.code yX10_isEmpty cX10_isEmpty 1 (some .boolean)] ({ frames := 0, cells := 0, slots := 0, locals := 0 } : Room) (va_Pc [.ref a] (hB l D cy ad b μ P (hdq cy ad a ae h t q))) (hQ b (fun rv H => rv = some (.int (b2i (decide (h = t)))) ∧ hW D cy ad b μ P (hdq cy ad a ae h t q) H)) 0 0 (hA b) := by
  by_cases c : h = t
  · rw [decide_eq_true c]; exact c_dqempty1 c
  · rw [decide_eq_false c]; exact c_dqempty0 (by omega) hht.2

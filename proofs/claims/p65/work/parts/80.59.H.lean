/-! the model carries heights -/
theorem ge16 {i : Nat} (h : i < 16) : ¬ (16 : Int32) ≤ nI i := nI_ge (b := 16) h (by decide)
section MCC
variable {v : Nat → Nat → Int32} {μ : gM}
theorem held_ge (C : CI v) {p : Nat} (hp : p < nP v) : (0 ≤ v 5 p) ↔ v 5 p ≠ -1 := by
  have z : (0 : Int32).toInt = 0 := by decide
  have z1 : (-1 : Int32).toInt = -1 := by decide
  rcases C.2.2.2.2.1 p hp with h | h
  · rw [h]; exact ⟨fun q => absurd q (by decide), fun q => absurd rfl q⟩
  · rw [Int32.le_iff_toInt_le, z]
    exact ⟨fun _ q => by
      have h1 := h.1
      rw [q, z1] at h1
      omega, fun _ => h.1⟩
end MCC
/-- an operation that throws for a bad index only; both sides may work in cells that don't count -/
def wrapU (fC : Option (Option Int32 × gM)) : Option (Int32 × gM) := Option.bind fC (fun q1 => Option.elim q1.1 (some ((1 : Int32), q1.2)) (fun v2 => gchk (gIn (0 : Int32) 1) (some ((0 : Int32), (sl q1.2 77 (0 : Int32).toNatClampNeg v2.toInt64)))))
def wrapV (fC : Option (Option Int64 × gM)) : Option (Int32 × gM) := Option.bind fC (fun q1 => Option.elim q1.1 (some ((1 : Int32), q1.2)) (fun v2 => gchk (gIn (0 : Int32) 1) (some ((0 : Int32), (sl q1.2 77 (0 : Int32).toNatClampNeg v2)))))

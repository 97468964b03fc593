section SO
variable {v : Nat → Nat → Int32} {μ : gM}
/-! rounds on both sides; adjust -/
theorem i2b_b (b : Bool) : i2b (b2i b) = some b := by cases b <;> rfl
theorem b2i_0 {b : Bool} : (b2i b = 0) ↔ b = false := by cases b <;> decide
def bN (n : Nat) : Int := 2000000000 + 600000000 * (n : Int)
theorem pv_AI (C : CI v) : AI v (pv v) (bN 0) := fun p hp => ⟨pv_rch C p, by
  by_cases c : pv v p = noH
  · exact Or.inl c
  · have := pv_b C c
    exact Or.inr (by unfold bN; omega)⟩
end SO
section SJ
variable {μ : gM}
end SJ

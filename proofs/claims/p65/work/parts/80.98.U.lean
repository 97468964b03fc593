section SP
variable {μ ρ ν : gM} {n p : Nat} {v : Nat → Nat → Int32}
theorem st_b {a : Nat} (ha : a < 3) : (sc 2 a).toInt = stLo a ∧ (sc 3 a).toInt = stHi a ∧ (sc 3 a).toInt ≤ 9999999 := by
  match a, ha with
  | 0, _ => exact ⟨by decide +kernel, by decide +kernel, by decide +kernel⟩
  | 1, _ => exact ⟨by decide +kernel, by decide +kernel, by decide +kernel⟩
  | 2, _ => exact ⟨by decide +kernel, by decide +kernel, by decide +kernel⟩
end SP

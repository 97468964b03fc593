section RW
variable {μ : gM} {t : Nat → Int32} {n p k s e : Nat}
/-! the two readers test words alike -/
theorem Tok_l (h : Tok t n p 1 s e) : s < e ∧ ∀ i, s ≤ i → i < e → ltr (t i) := by
  obtain ⟨a1, a2, a3, a4⟩ := h
  rcases a4 with ⟨c1, c2, c3⟩ | ⟨c1, c2, c3⟩
  · cases c2
  · rcases c3 with ⟨x1, x2, x3, x4, x5, x6⟩ | ⟨x1, x2, x3, x4, x5, -⟩ | ⟨x1, x2, x3, x4⟩
    · exact ⟨x3, x5⟩
    · cases x3
    · exfalso
      by_cases c : t s = 59
      · rw [if_pos c] at x4; cases x4
      · rw [if_neg c] at x4; cases x4
end RW

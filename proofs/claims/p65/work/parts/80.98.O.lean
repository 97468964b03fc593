section RS
variable {μ ρ : gM} {t : Nat → Int32} {n p k s e : Nat}
/-! where the two readers stand -/
/-- the class's reader: the token from p on -/
def SR (n p k s e : Nat) (μ : gM) : Prop := n ≤ 1200 ∧ gi μ 1 2 = nI n ∧ Tok (gi μ 2) n p k s e ∧ gi μ 1 3 = nI s ∧ gi μ 1 4 = nI e ∧ gi μ 1 5 = nI k ∧ (k = 1 → gi μ 1 6 = wdC (gi μ 2) s (e - s)) ∧ (k = 2 → gi μ 1 7 = nbC (gi μ 2) s (e - s))
/-- the model's reader -/
def MR (t : Nat → Int32) (n p k s e : Nat) (ρ : gM) : Prop := TXm t n ρ ∧ Tok t n p k s e ∧ gi ρ 60 13 = nI s ∧ gi ρ 60 12 = nI e ∧ gi ρ 60 14 = nI k ∧ (k = 1 → gl ρ 60 15 = if e - s ≤ 12 then wdM t s (e - s) else 0) ∧ (k = 2 → gi ρ 60 16 = nbM t s (e - s))
theorem Tok_le (h : Tok t n p k s e) : p ≤ s ∧ s ≤ e ∧ e ≤ n ∧ k < 5 ∧ (k ≠ 0 → s < e) := by
  obtain ⟨a1, a2, a3, a4⟩ := h
  rcases a4 with ⟨c1, c2, c3⟩ | ⟨c1, c2, c3⟩
  · exact ⟨a1, by omega, by omega, by omega, fun h => absurd c2 h⟩
  · rcases c3 with ⟨x1, x2, x3, x4, -⟩ | ⟨x1, x2, x3, x4, x5, -⟩ | ⟨x1, x2, x3, x4⟩
    · exact ⟨a1, by omega, by omega, by omega, fun _ => x3⟩
    · exact ⟨a1, by omega, by omega, by omega, fun _ => x4⟩
    · refine ⟨a1, by omega, by omega, ?_, fun _ => by omega⟩
      rw [x4]
      split <;> decide
theorem c_next9 (h : SR n p k s e μ) : ∃ ν k2 s2 e2, f_X4_advance μ = some ν ∧ AF μ ν ∧ SR n e k2 s2 e2 ν := by
  obtain ⟨h1, h2, h3, h4, h5, h6, h7, h8⟩ := h
  obtain ⟨ν, k2, s2, e2, g1, g2, g3, g4, g5, g6, g7, g8⟩ := c_adv h1 h2 (Tok_le h3).2.2.1 h5
  have tx : gi ν 2 = gi μ 2 := funext fun j => g2.1 2 j (by omega)
  exact ⟨ν, k2, s2, e2, g1, g2, h1, (g2.1 1 2 (by omega)).trans h2, by rw [tx]; exact g3, g4, g5, g6, by rw [tx]; exact g7, by rw [tx]; exact g8⟩
end RS

section SZ
variable {μ ρ ν : gM} {n p : Nat}
/-! a statement read; the text read -/
theorem Sim.of {fc gc : gM → Option (Bool × gM)} {fm gm : gM → Option gM} (S : Sim n p μ ρ fc fm) (e1 : gc μ = Option.bind (fc μ) (fun q => some (q.1, q.2))) (e2 : gm ρ = Option.bind (fm ρ) (fun q => some q)) : Sim n p μ ρ gc gm := by
  obtain ⟨b, ν, ρ2, h1, h2, r⟩ := S
  refine ⟨b, ν, ρ2, ?_, ?_, r⟩
  · rw [e1, h1]; rfl
  · rw [e2, h2]; rfl
/-- what the model keeps over a text -/
def KN (μ ν : gM) : Prop := (∀ k i, k ≠ 62 → k ≠ 67 → (k ≠ 60 ∨ i < 12 ∨ 20 < i) → ν.1 k i = μ.1 k i) ∧ ∀ k i, (k ≠ 60 ∨ i ≠ 15) → ν.2 k i = μ.2 k i
theorem KN.rf (μ : gM) : KN μ μ := ⟨fun _ _ _ _ _ => rfl, fun _ _ _ => rfl⟩
theorem KN.km {ρ : gM} (h : KN μ ν) (h2 : KM ν ρ) : KN μ ρ := ⟨fun k i a b c => (h2.1 k i a b (by omega)).trans (h.1 k i a b c), fun k i a => (h2.2 k i a).trans (h.2 k i a)⟩
theorem KN.x20 {x : Int32} (h : KN μ ν) : KN μ (si ν 60 20 x) := ⟨fun a b q r s => by
  show (if a = 60 ∧ b = 20 then x else ν.1 a b) = _
  rw [if_neg (by omega)]; exact h.1 a b q r s, h.2⟩
theorem RD.le (R : RD n p μ ρ) : p ≤ n ∧ n ≤ 1200 := by
  obtain ⟨⟨k, s, e, a, b⟩, -⟩ := R
  have T := Tok_le a.2.2.1
  exact ⟨by omega, a.1⟩
/-- what a text comes to -/
def TxO (μ0 ρ0 : gM) (c : Int32) (ν ρf : gM) : Prop := KC μ0 ν ∧ KN ρ0 ρf ∧ ((∃ x, x < 2 ^ 31 ∧ c = nI x ∧ gi ρf 60 17 = 0 ∧ gi ρf 60 18 = -1 ∧ gi ρf 60 20 = c ∧ DR ν ρf) ∨ (c < 0 ∧ gi ρf 60 17 = c ∧ gi ρf 60 18 = gi ν 1 3))
end SZ

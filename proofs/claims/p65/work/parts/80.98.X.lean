section SLN
variable {μ ρ ν : gM} {n p k : Nat} {v : Nat → Nat → Int32}
/-! the setups of a line -/
def lo4 : Nat → Int32
  | 0 => 0
  | 1 => 0
  | _ => 1
def hi4 : Nat → Int32
  | 0 => 40000
  | 1 => 40000
  | _ => 100
theorem lh4 {i : Nat} (hi : i < 4) : lo4 i = sc 0 i ∧ hi4 i = sc 1 i := by
  match i, hi with
  | 0, _ => exact ⟨by decide +kernel, by decide +kernel⟩
  | 1, _ => exact ⟨by decide +kernel, by decide +kernel⟩
  | 2, _ => exact ⟨by decide +kernel, by decide +kernel⟩
  | 3, _ => exact ⟨by decide +kernel, by decide +kernel⟩
def LC (k : Nat) (μ ν : gM) : Prop := (∀ K i, (K ≠ 1 ∨ i < 3 ∨ 7 < i) → (K ≠ 57 ∨ i < 32 * k ∨ 32 * k + 32 ≤ i) → (K ≠ 56 ∨ i ≠ k) → ν.1 K i = μ.1 K i) ∧ ν.2 = μ.2
theorem LC.c4 {a b : Nat} (h : LC k μ ν) (h2 : C4 57 a b ν ρ) (hc : 32 * k ≤ a ∧ b ≤ 32 * k + 32) : LC k μ ρ := ⟨fun K i q r s => (h2.1 K i q (by omega)).trans (h.1 K i q r s), h2.2.trans h.2⟩
theorem LC.x {x : Int32} (h : LC k μ ν) : LC k μ (si ν 56 k x) := ⟨fun K i q r s => by
  show (if K = 56 ∧ i = k then x else ν.1 K i) = _
  rw [if_neg (by omega)]; exact h.1 K i q r s, h.2⟩
theorem LC.kc (h : LC k μ ν) : KC μ ν := ⟨fun K i q r => h.1 K i (by omega) (by omega) (by omega), h.2⟩
theorem c_placeb (hk : k < 20) {s : Nat} (hs : s < 9) : f_X3b_place (nI k) (nI s) μ = some (nI (32 * k + 4 * s)) := by
  unfold f_X3b_place
  rw [n8, pk_mul, nI_add, n4, pk_mul]
  exact congrArg (fun q => some (nI q)) (by omega)
end SLN

section ML3
variable {v : Nat → Nat → Int32} {μ : gM} {A : Nat}
/-! the model's loops -/
/-- cells that the model's steps leave alone -/
def GF (μ ν : gM) : Prop := (∀ k i, k ≠ 74 → (k ≠ 60 ∨ (i ≠ 31 ∧ i ≠ 32 ∧ i ≠ 33)) → ν.1 k i = μ.1 k i) ∧ ν.2 = μ.2
def LF (μ ν : gM) : Prop := (∀ k i, k ≠ 74 → k ≠ 75 → (k ≠ 60 ∨ (i ≠ 31 ∧ i ≠ 32 ∧ i ≠ 33)) → ν.1 k i = μ.1 k i) ∧ ν.2 = μ.2
theorem LF.rf (μ : gM) : LF μ μ := ⟨fun _ _ _ _ _ => rfl, rfl⟩
theorem LF.tr {μ ν ρ : gM} (h : LF μ ν) (h2 : LF ν ρ) : LF μ ρ := ⟨fun k i a b c => (h2.1 k i a b c).trans (h.1 k i a b c), h2.2.trans h.2⟩
theorem GF.lf {μ ν : gM} (h : GF μ ν) : LF μ ν := ⟨fun k i a _ c => h.1 k i a c, h.2⟩
theorem LF.fr {μ ν : gM} (h : LF μ ν) : Fr μ ν := ⟨fun k i hr => h.1 k i (fun w => by rw [w] at hr; cases hr) (fun w => by rw [w] at hr; cases hr) (by
  by_cases c : k = 60
  · right
    subst c
    exact ⟨(fun w => by rw [w] at hr; cases hr), (fun w => by rw [w] at hr; cases hr), (fun w => by rw [w] at hr; cases hr)⟩
  · exact Or.inl c), fun k i _ => by rw [h.2]⟩
theorem LF.fq {μ ν : gM} (h : LF μ ν) : Fq μ ν := ⟨h.fr, h.1 60 6 (by decide) (by decide) (Or.inr (by decide))⟩
theorem LL.lf {μ ν : gM} (h : LF μ ν) (L : LL v μ) : LL v ν :=
  ⟨⟨fun p hp => (h.1 72 p (by decide) (by decide) (Or.inl (by decide))).trans (L.1.1 p hp), fun p hp => (h.1 71 p (by decide) (by decide) (Or.inl (by decide))).trans (L.1.2.1 p hp), (h.1 60 28 (by decide) (by decide) (Or.inr (by decide))).trans L.1.2.2⟩, (h.1 60 29 (by decide) (by decide) (Or.inr (by decide))).trans L.2.1, fun k hk hp => (h.1 73 _ (by decide) (by decide) (Or.inl (by decide))).trans (L.2.2 k hk hp)⟩
def MW (v : Nat → Nat → Int32) (L : List (Nat × Nat)) (μ : gM) : Prop := AW v 74 L μ ∧ gi μ 60 31 = nI L.length ∧ gi μ 60 32 = wrs v L ∧ gi μ 60 33 = nI (wln v L)
end ML3

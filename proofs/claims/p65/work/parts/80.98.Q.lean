section PR
variable {μ ρ ν : gM} {n p : Nat}
/-! reading: what both sides do with one token -/
/-- the two readers stand at the same token -/
def RD (n p : Nat) (μ ρ : gM) : Prop := (∃ k s e, SR n p k s e μ ∧ MR (gi μ 2) n p k s e ρ) ∧ gi ρ 60 17 = 0 ∧ gi ρ 60 18 = -1
def mE (c : Int32) (ρ : gM) : gM := si (si ρ 60 17 c) 60 18 (gi (si ρ 60 17 c) 60 13)
theorem mE_17 {c : Int32} : gi (mE c ρ) 60 17 = c := (gi_sij (by decide)).trans gi_sii
theorem mE_18 {c : Int32} : gi (mE c ρ) 60 18 = gi ρ 60 13 := gi_sii.trans (gi_sij (by decide))
theorem RD.kd (R : RD n p μ ρ) : gi ρ 60 14 = gi μ 1 5 := by
  obtain ⟨⟨k, s, e, a, b⟩, -⟩ := R
  exact b.2.2.2.2.1.trans a.2.2.2.2.2.1.symm
theorem RD.ps (R : RD n p μ ρ) : gi ρ 60 13 = gi μ 1 3 := by
  obtain ⟨⟨k, s, e, a, b⟩, -⟩ := R
  exact b.2.2.1.trans a.2.2.2.1.symm
theorem RD.cg {μ2 ρ2 : gM} (R : RD n p μ ρ) (h1 : ∀ i, i ≤ 7 → μ2.1 1 i = μ.1 1 i) (h2 : ∀ i, μ2.1 2 i = μ.1 2 i) (h3 : ∀ i, 11 ≤ i → i ≤ 18 → ρ2.1 60 i = ρ.1 60 i) (h4 : ρ2.2 60 15 = ρ.2 60 15) (h5 : ∀ i, ρ2.1 68 i = ρ.1 68 i) : RD n p μ2 ρ2 := by
  obtain ⟨⟨k, s, e, a, b⟩, x, y⟩ := R
  obtain ⟨a1, a2, a3, a4, a5, a6, a7, a8⟩ := a
  obtain ⟨⟨b1, b2, b3⟩, b4, b5, b6, b7, b8, b9⟩ := b
  have tx : gi μ2 2 = gi μ 2 := funext h2
  refine ⟨⟨k, s, e, ⟨a1, (h1 2 (by omega)).trans a2, by rw [tx]; exact a3, (h1 3 (by omega)).trans a4, (h1 4 (by omega)).trans a5, (h1 5 (by omega)).trans a6, fun q => ?_, fun q => ?_⟩, ?_⟩, (h3 17 (by omega) (by omega)).trans x, (h3 18 (by omega) (by omega)).trans y⟩
  · rw [tx]; exact (h1 6 (by omega)).trans (a7 q)
  · rw [tx]; exact (h1 7 (by omega)).trans (a8 q)
  · rw [tx]
    exact ⟨⟨b1, (h3 11 (by omega) (by omega)).trans b2, fun j hj => ⟨(h5 j).trans (b3 j hj).1, (b3 j hj).2⟩⟩, b4, (h3 13 (by omega) (by omega)).trans b5, (h3 12 (by omega) (by omega)).trans b6, (h3 14 (by omega) (by omega)).trans b7, fun q => h4.trans (b8 q), fun q => (h3 16 (by omega) (by omega)).trans (b9 q)⟩
theorem RD.c {k i : Nat} {x : Int32} (R : RD n p μ ρ) (h : (k ≠ 1 ∨ 7 < i) ∧ k ≠ 2) : RD n p (si μ k i x) ρ :=
  R.cg (fun j hj => if_neg (by omega)) (fun j => if_neg (by omega)) (fun _ _ _ => rfl) rfl (fun _ => rfl)
theorem RD.m {k i : Nat} {x : Int32} (R : RD n p μ ρ) (h : (k ≠ 60 ∨ i < 11 ∨ 18 < i) ∧ k ≠ 68) : RD n p μ (si ρ k i x) :=
  R.cg (fun _ _ => rfl) (fun _ => rfl) (fun j h1 h2 => if_neg (by omega)) rfl (fun j => if_neg (by omega))
end PR

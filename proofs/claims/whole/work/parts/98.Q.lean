/-! reading: what both sides do with one token -/
section PR
variable {μ ρ ν : gM} {n p : Nat}
/-- the two readers stand at the same token -/
def RD (n p : Nat) (μ ρ : gM) : Prop := (∃ k s e, SR n p k s e μ ∧ MR (gi μ 2) n p k s e ρ) ∧ gi ρ 60 17 = 0 ∧ gi ρ 60 18 = -1
def mE (c : Int32) (ρ : gM) : gM := si (si ρ 60 17 c) 60 18 (gi (si ρ 60 17 c) 60 13)
theorem mE_17 {c : Int32} : gi (mE c ρ) 60 17 = c := (gi_sij (by decide)).trans gi_sii
theorem mE_18 {c : Int32} : gi (mE c ρ) 60 18 = gi ρ 60 13 := gi_sii.trans (gi_sij (by decide))
theorem m_ck1 {c : Int32} : f_X8_check 1 c ρ = some ρ := by
  unfold f_X8_check
  rw [if_neg (by decide)]
theorem m_ck0 {c : Int32} (h : gi ρ 60 17 = 0) : f_X8_check 0 c ρ = some (mE c ρ) := by
  unfold f_X8_check
  rw [if_pos rfl, if_pos h]; rfl
theorem m_ckE {c : Int32} (h : gi ρ 60 17 ≠ 0) (a : Int32) : f_X8_check a c ρ = some ρ := by
  unfold f_X8_check
  rw [if_neg h, ite_self]
theorem m_agE (h : gi ρ 60 17 ≠ 0) : f_X8_advanceIfGood ρ = some ρ := by
  unfold f_X8_advanceIfGood
  rw [if_neg h]
theorem m_iwE (h : gi ρ 60 17 ≠ 0) (W : Int64) : f_X8_isWord W ρ = some false := by
  unfold f_X8_isWord
  rw [if_neg h]
theorem m_inR (x lo hi : Int32) (ρ : gM) : ∃ b, f_X8_inRange x lo hi ρ = some b := by
  unfold f_X8_inRange
  split
  · exact ⟨_, rfl⟩
  · split
    · exact ⟨_, rfl⟩
    · exact ⟨_, rfl⟩
theorem m_rj (h : gi ρ 60 17 ≠ 0) (lo hi y : Int32) : ∃ x, j_X8_readInteger_14 lo hi y ρ = some (x, ρ) := by
  unfold j_X8_readInteger_14
  obtain ⟨b, hb⟩ := m_inR (gi ρ 60 16) lo hi ρ
  rw [m_ckE h, Option.bind_some, hb, Option.bind_some, m_ckE h, Option.bind_some, m_agE h, Option.bind_some]
  exact ⟨_, rfl⟩
theorem m_riE (h : gi ρ 60 17 ≠ 0) (lo hi : Int32) : ∃ x, f_X8_readInteger lo hi ρ = some (x, ρ) := by
  unfold f_X8_readInteger
  by_cases d : gi ρ 60 14 = 2
  · rw [if_pos d]; exact m_rj h lo hi 1
  · rw [if_neg d]; exact m_rj h lo hi 0
theorem RD.kd (R : RD n p μ ρ) : gi ρ 60 14 = gi μ 1 5 := by
  obtain ⟨⟨k, s, e, a, b⟩, -⟩ := R
  exact b.2.2.2.2.1.trans a.2.2.2.2.2.1.symm
theorem RD.ps (R : RD n p μ ρ) : gi ρ 60 13 = gi μ 1 3 := by
  obtain ⟨⟨k, s, e, a, b⟩, -⟩ := R
  exact b.2.2.1.trans a.2.2.2.1.symm
theorem RD.cg {μ2 ρ2 : gM} (R : RD n p μ ρ) (h1 : ∀ i, i ≤ 7 → μ2.1 1 i = μ.1 1 i) (h2 : ∀ i, μ2.1 2 i = μ.1 2 i) (h3 : ∀ i, 11 ≤ i → i ≤ 18 → ρ2.1 60 i = ρ.1 60 i) (h4 : ρ2.2 60 15 = ρ.2 60 15) (h5 : ∀ i, ρ2.1 68 i = ρ.1 68 i) : RD n p μ2 ρ2 := by
  obtain ⟨⟨k, s, e, a, b⟩, x, y⟩ := R
  obtain ⟨a1, a2, a3, a4, a5, a6, a7, a8⟩ := a
  obtain ⟨⟨b1, b2, b3⟩, b4, b5, b6, b7, b8, b9⟩ := b
  have tx : gi μ2 2 = gi μ 2 := funext h2
  refine ⟨⟨k, s, e, ⟨a1, (h1 2 (by omega)).trans a2, by rw [tx]; exact a3, (h1 3 (by omega)).trans a4, (h1 4 (by omega)).trans a5, (h1 5 (by omega)).trans a6, fun q => ?_, fun q => ?_⟩, ?_⟩, (h3 17 (by omega) (by omega)).trans x, (h3 18 (by omega) (by omega)).trans y⟩
  · rw [tx]; exact (h1 6 (by omega)).trans (a7 q)
  · rw [tx]; exact (h1 7 (by omega)).trans (a8 q)
  · rw [tx]
    exact ⟨⟨b1, (h3 11 (by omega) (by omega)).trans b2, fun j hj => ⟨(h5 j).trans (b3 j hj).1, (b3 j hj).2⟩⟩, b4, (h3 13 (by omega) (by omega)).trans b5, (h3 12 (by omega) (by omega)).trans b6, (h3 14 (by omega) (by omega)).trans b7, fun q => h4.trans (b8 q), fun q => (h3 16 (by omega) (by omega)).trans (b9 q)⟩
theorem RD.c {k i : Nat} {x : Int32} (R : RD n p μ ρ) (h : (k ≠ 1 ∨ 7 < i) ∧ k ≠ 2) : RD n p (si μ k i x) ρ :=
  R.cg (fun j hj => if_neg (by omega)) (fun j => if_neg (by omega)) (fun _ _ _ => rfl) rfl (fun _ => rfl)
theorem RD.m {k i : Nat} {x : Int32} (R : RD n p μ ρ) (h : (k ≠ 60 ∨ i < 11 ∨ 18 < i) ∧ k ≠ 68) : RD n p μ (si ρ k i x) :=
  R.cg (fun _ _ => rfl) (fun _ => rfl) (fun j h1 h2 => if_neg (by omega)) rfl (fun j => if_neg (by omega))
theorem cm_adv (R : RD n p μ ρ) : ∃ μ2 ρ2 p2, f_X4_advance μ = some μ2 ∧ f_X8_advance ρ = some ρ2 ∧ f_X8_advanceIfGood ρ = some ρ2 ∧ AF μ μ2 ∧ MF ρ ρ2 ∧ RD n p2 μ2 ρ2 ∧ p ≤ p2 ∧ p2 ≤ n ∧ (gi μ 1 5 ≠ 0 → p < p2) := by
  obtain ⟨⟨k, s, e, a, b⟩, x, y⟩ := R
  have T := Tok_le a.2.2.1
  obtain ⟨μ2, k2, s2, e2, g1, g2, g3⟩ := c_next a
  have tx : gi μ2 2 = gi μ 2 := funext fun j => g2.1 2 j (by omega)
  obtain ⟨ρ2, m1, m2, m3⟩ := m_next b (show Tok (gi μ 2) n e k2 s2 e2 by rw [← tx]; exact g3.2.2.1)
  refine ⟨μ2, ρ2, e, g1, m1, ?_, g2, m2, ⟨⟨k2, s2, e2, g3, by rw [tx]; exact m3⟩, (m2.1 60 17 (by omega)).trans x, (m2.1 60 18 (by omega)).trans y⟩, by omega, by omega, fun h => ?_⟩
  · unfold f_X8_advanceIfGood
    rw [if_pos x, m1]; rfl
  · have hk : k ≠ 0 := fun z => h (by rw [a.2.2.2.2.2.1, z]; rfl)
    have := T.2.2.2.2 hk
    omega
theorem cm_wd (R : RD n p μ ρ) {m j : Nat} {W : Int64} (hm : 1 ≤ m ∧ m ≤ 9) (hW : W = lN (w32 (sc j) 0 m) ∧ ∀ x, x < m → ltr (sc j x)) : ∃ b, iwd (nI m) m j μ = some b ∧ f_X8_isWord W ρ = some b ∧ (gi μ 1 5 = 1 → (gl ρ 60 15 = W ↔ b = true)) := by
  have kd := R.kd
  obtain ⟨⟨k, s, e, a, b⟩, x, y⟩ := R
  obtain ⟨q, h1, h2⟩ := cm_word a hm hW
  have h3 := h2 ρ b x
  refine ⟨q, h1, h3, fun w => ?_⟩
  unfold f_X8_isWord at h3
  rw [if_pos x, kd, if_pos w] at h3
  by_cases d : gl ρ 60 15 = W
  · rw [if_pos d] at h3
    exact ⟨fun _ => (Option.some.inj h3).symm, fun _ => d⟩
  · rw [if_neg d] at h3
    refine ⟨fun z => absurd z d, fun z => ?_⟩
    rw [z] at h3
    cases Option.some.inj h3
end PR

/-! all steps, and the law from what is laid down first -/
theorem l_steps (xs : Nat → Int32) : ∀ n i v ν μ, IV v ν μ → ∃ v' t, f_steps xs n i ν μ = some t ∧ IV v' t.1 t.2
  | 0, _, v, ν, μ, I => ⟨v, (ν, μ), rfl, I⟩
  | n + 1, i, v, ν, μ, I => by
    obtain ⟨v1, ν1, μ1, e1, I1⟩ := l_does I (xs (14 + i))
    obtain ⟨μ2, e2, F2⟩ := l_same I1.1 I1.2.1 I1.2.2.1
    have I2 : IV v1 ν1 μ2 := ⟨I1.1.fr F2, I1.2.1, I1.2.2.1.fr F2, I1.2.2.2.fr F2⟩
    obtain ⟨v3, t, e3, I3⟩ := l_steps xs n (i + 1) v1 ν1 μ2 I2
    refine ⟨v3, t, ?_, I3⟩
    show Option.bind (f_L_does (xs (14 + i)) ν μ) _ = _
    rw [e1, Option.bind_some, gckb rfl, e2, Option.bind_some, gckb rfl]
    exact e3
theorem l_law {xs : Nat → Int32} (h : ∃ v q, f_L_init xs = some q ∧ IV v q.1 q.2 ∧ ¬ gi q.1 0 11 = 0) : f_law xs = some () ∧ ∀ q, f_L_init xs = some q → lF q.1 := by
  obtain ⟨v, q, e, I, h11⟩ := h
  refine ⟨?_, fun q' hq => ?_⟩
  · obtain ⟨μ2, e2, F2⟩ := l_same I.1 I.2.1 I.2.2.1
    have I2 : IV v q.1 μ2 := ⟨I.1.fr F2, I.2.1, I.2.2.1.fr F2, I.2.2.2.fr F2⟩
    obtain ⟨v3, t, e3, I3⟩ := l_steps xs 14 0 v q.1 μ2 I2
    have ea : f_X7_adjust (0 : Int32) t.2 = some (-2, t.2) := by
      unfold f_X7_adjust
      rw [if_pos (by decide)]
    unfold f_law
    rw [e, Option.bind_some, gckb h11, e2, Option.bind_some, gckb rfl, e3, Option.bind_some, ea, Option.bind_some, gckb rfl]
  · rw [e] at hq
    cases hq
    exact I.2.1.2.2.2.2.2.2

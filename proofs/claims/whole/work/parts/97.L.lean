/-! load's plain loops: the model's tables emptied and taken over -/
section LO
variable {ρ : gM}
theorem m_res62 (ρ : gM) : ∃ ν, f_X8_reset_62 ρ = some ν ∧ (∀ k i, k ≠ 62 → ν.1 k i = ρ.1 k i) ∧ ν.2 = ρ.2 ∧ gi ν 62 0 = 40 ∧ gi ν 62 1 = 60 ∧ gi ν 62 2 = 20 ∧ (∀ p, p < 16 → gi ν 62 (6 + p) = -1) ∧ gi ν 62 702 = 0 := by
  obtain ⟨ν, h1, F, F2, G⟩ := gloop_rel (body := fun t => b_X8_reset_62_2 t.1 t.2) (fun i t => t.1 = nI i ∧ (∀ k j, k ≠ 62 → t.2.1 k j = ρ.1 k j) ∧ t.2.2 = ρ.2 ∧ ∀ j, j < i → gi t.2 62 j = 0) (fun ν => (∀ k j, k ≠ 62 → ν.1 k j = ρ.1 k j) ∧ ν.2 = ρ.2 ∧ ∀ j, j < 703 → gi ν 62 j = 0) 703 (fun i t hi hR => by
    obtain ⟨x, ν⟩ := t
    obtain ⟨a1, F, F2, G⟩ := hR
    have a1 : x = nI i := a1
    subst a1
    replace G : ∀ j, j < i → gi ν 62 j = 0 := G
    show (∃ t, b_X8_reset_62_2 (nI i) ν = _ ∧ _) ∨ ∃ r, b_X8_reset_62_2 (nI i) ν = _ ∧ _
    unfold b_X8_reset_62_2
    by_cases c : i < 703
    · left
      rw [if_neg (show ¬ (703 : Int32) ≤ nI i from nI_ge (b := 703) c (by decide))]
      simp (disch := omega) only [gck, nI_clamp]
      rw [nI_1]
      refine ⟨_, rfl, ⟨rfl, fun k j hk => (si1 hk).trans (F k j hk), F2, fun j hj => ?_⟩, c⟩
      show gi (si ν 62 i 0) 62 j = 0
      rw [gi_si]
      by_cases d : j = i
      · rw [if_pos ⟨rfl, d⟩]
      · rw [if_neg (fun w => d w.2)]; exact G j (by omega)
    · right
      have e : i = 703 := by omega
      subst e
      exact ⟨_, if_pos (show (703 : Int32) ≤ nI 703 from nI_le (a := 703) (Nat.le_refl _) (by decide)), F, F2, G⟩) (by unfold gFuel; omega) (s0 := (nI 0, ρ)) ⟨rfl, fun _ _ _ => rfl, rfl, fun j hj => absurd hj (Nat.not_lt_zero _)⟩
  obtain ⟨ν3, h3⟩ : ∃ ν3, ν3 = si (si (si ν 62 0 (40 : Int32)) 62 1 (60 : Int32)) 62 2 (20 : Int32) := ⟨_, rfl⟩
  have F3 : ∀ k j, k ≠ 62 → ν3.1 k j = ρ.1 k j := fun k j hk => by
    rw [h3]
    exact (si1 hk).trans ((si1 hk).trans ((si1 hk).trans (F k j hk)))
  have f3 : ν3.2 = ρ.2 := by rw [h3]; exact F2
  have G3 : gi ν3 62 0 = 40 ∧ gi ν3 62 1 = 60 ∧ gi ν3 62 2 = 20 ∧ gi ν3 62 702 = 0 := by
    rw [h3]
    refine ⟨?_, ?_, gi_sii, ?_⟩
    · rw [gi_sij (by decide), gi_sij (by decide), gi_sii]
    · rw [gi_sij (by decide), gi_sii]
    · rw [gi_sij (by decide), gi_sij (by decide), gi_sij (by decide)]; exact G 702 (by decide)
  obtain ⟨ν4, h4, F4, f4, G4, H4⟩ := gloop_rel (body := fun t => b_X8_reset_62_36 t.1 t.2) (fun i t => t.1 = nI i ∧ (∀ k j, k ≠ 62 → t.2.1 k j = ρ.1 k j) ∧ t.2.2 = ρ.2 ∧ (gi t.2 62 0 = 40 ∧ gi t.2 62 1 = 60 ∧ gi t.2 62 2 = 20 ∧ gi t.2 62 702 = 0) ∧ ∀ p, p < i → gi t.2 62 (6 + p) = -1) (fun ν => (∀ k j, k ≠ 62 → ν.1 k j = ρ.1 k j) ∧ ν.2 = ρ.2 ∧ (gi ν 62 0 = 40 ∧ gi ν 62 1 = 60 ∧ gi ν 62 2 = 20 ∧ gi ν 62 702 = 0) ∧ ∀ p, p < 16 → gi ν 62 (6 + p) = -1) 16 (fun i t hi hR => by
    obtain ⟨x, ν⟩ := t
    obtain ⟨a1, F, F2, ⟨G0, G1, G2, G7⟩, H⟩ := hR
    have a1 : x = nI i := a1
    subst a1
    replace H : ∀ p, p < i → gi ν 62 (6 + p) = -1 := H
    show (∃ t, b_X8_reset_62_36 (nI i) ν = _ ∧ _) ∨ ∃ r, b_X8_reset_62_36 (nI i) ν = _ ∧ _
    unfold b_X8_reset_62_36
    by_cases c : i < 16
    · left
      rw [if_neg (ge16 c)]
      simp (disch := omega) only [n6, nI_add, gck, nI_clamp]
      rw [nI_1]
      refine ⟨_, rfl, ⟨rfl, fun k j hk => (si1 hk).trans (F k j hk), F2, ⟨(gi_sij (by omega)).trans G0, (gi_sij (by omega)).trans G1, (gi_sij (by omega)).trans G2, (gi_sij (by omega)).trans G7⟩, fun p hp => ?_⟩, c⟩
      show gi (si ν 62 (6 + i) (-1)) 62 (6 + p) = -1
      rw [gi_si]
      by_cases d : p = i
      · rw [if_pos ⟨rfl, by rw [d]⟩]
      · rw [if_neg (by omega)]; exact H p (by omega)
    · right
      have e : i = 16 := by omega
      subst e
      exact ⟨_, if_pos (show nI 16 ≤ nI 16 from nI_le (Nat.le_refl _) (by decide)), F, F2, ⟨G0, G1, G2, G7⟩, H⟩) (by unfold gFuel; omega) (s0 := (nI 0, ν3)) ⟨rfl, F3, f3, G3, fun p hp => absurd hp (Nat.not_lt_zero _)⟩
  refine ⟨ν4, ?_, F4, f4, G4.1, G4.2.1, G4.2.2.1, H4, G4.2.2.2⟩
  unfold f_X8_reset_62
  rw [show gloop (fun t => b_X8_reset_62_2 t.1 t.2) gFuel ((0 : Int32), ρ) = _ from h1, Option.bind_some]
  simp only [gckb (show gIn (0 : Int32) 703 by decide), gckb (show gIn (1 : Int32) 703 by decide), gckb (show gIn (2 : Int32) 703 by decide)]
  rw [show (0 : Int32).toNatClampNeg = 0 by decide, show (1 : Int32).toNatClampNeg = 1 by decide, show (2 : Int32).toNatClampNeg = 2 by decide, ← h3, show gloop (fun t => b_X8_reset_62_36 t.1 t.2) gFuel ((0 : Int32), ν3) = _ from h4]
  rfl
theorem m_clr67 (ρ : gM) : ∃ ν, gloop (fun t => b_X8_load_59 t.1 t.2) gFuel ((0 : Int32), ρ) = some ν ∧ (∀ k i, k ≠ 67 → ν.1 k i = ρ.1 k i) ∧ ν.2 = ρ.2 ∧ ∀ j, j < 137 → gi ν 67 j = 0 := by
  refine gloop_rel (body := fun t => b_X8_load_59 t.1 t.2) (fun i t => t.1 = nI i ∧ (∀ k j, k ≠ 67 → t.2.1 k j = ρ.1 k j) ∧ t.2.2 = ρ.2 ∧ ∀ j, j < i → gi t.2 67 j = 0) (fun ν => (∀ k j, k ≠ 67 → ν.1 k j = ρ.1 k j) ∧ ν.2 = ρ.2 ∧ ∀ j, j < 137 → gi ν 67 j = 0) 137 (fun i t hi hR => ?_) (by unfold gFuel; omega) (s0 := (nI 0, ρ)) ⟨rfl, fun _ _ _ => rfl, rfl, fun j hj => absurd hj (Nat.not_lt_zero _)⟩
  obtain ⟨x, ν⟩ := t
  obtain ⟨a1, F, F2, G⟩ := hR
  have a1 : x = nI i := a1
  subst a1
  replace G : ∀ j, j < i → gi ν 67 j = 0 := G
  show (∃ t, b_X8_load_59 (nI i) ν = _ ∧ _) ∨ ∃ r, b_X8_load_59 (nI i) ν = _ ∧ _
  unfold b_X8_load_59
  by_cases c : i < 137
  · left
    rw [if_neg (show ¬ (137 : Int32) ≤ nI i from nI_ge (b := 137) c (by decide))]
    simp (disch := omega) only [gck, nI_clamp]
    rw [nI_1]
    refine ⟨_, rfl, ⟨rfl, fun k j hk => (si1 hk).trans (F k j hk), F2, fun j hj => ?_⟩, c⟩
    show gi (si ν 67 i 0) 67 j = 0
    rw [gi_si]
    by_cases d : j = i
    · rw [if_pos ⟨rfl, d⟩]
    · rw [if_neg (fun w => d w.2)]; exact G j (by omega)
  · right
    have e : i = 137 := by omega
    subst e
    exact ⟨_, if_pos (show (137 : Int32) ≤ nI 137 from nI_le (a := 137) (Nat.le_refl _) (by decide)), F, F2, G⟩
theorem m_cp61 (ρ : gM) : ∃ ν, gloop (fun t => b_X8_load_156 t.1 t.2) gFuel ((0 : Int32), ρ) = some ν ∧ (∀ k i, k ≠ 61 → ν.1 k i = ρ.1 k i) ∧ ν.2 = ρ.2 ∧ ∀ j, j < 703 → gi ν 61 j = gi ρ 62 j := by
  refine gloop_rel (body := fun t => b_X8_load_156 t.1 t.2) (fun i t => t.1 = nI i ∧ (∀ k j, k ≠ 61 → t.2.1 k j = ρ.1 k j) ∧ t.2.2 = ρ.2 ∧ ∀ j, j < i → gi t.2 61 j = gi ρ 62 j) (fun ν => (∀ k j, k ≠ 61 → ν.1 k j = ρ.1 k j) ∧ ν.2 = ρ.2 ∧ ∀ j, j < 703 → gi ν 61 j = gi ρ 62 j) 703 (fun i t hi hR => ?_) (by unfold gFuel; omega) (s0 := (nI 0, ρ)) ⟨rfl, fun _ _ _ => rfl, rfl, fun j hj => absurd hj (Nat.not_lt_zero _)⟩
  obtain ⟨x, ν⟩ := t
  obtain ⟨a1, F, F2, G⟩ := hR
  have a1 : x = nI i := a1
  subst a1
  replace F : ∀ k j, k ≠ 61 → ν.1 k j = ρ.1 k j := F
  replace G : ∀ j, j < i → gi ν 61 j = gi ρ 62 j := G
  show (∃ t, b_X8_load_156 (nI i) ν = _ ∧ _) ∨ ∃ r, b_X8_load_156 (nI i) ν = _ ∧ _
  unfold b_X8_load_156
  by_cases c : i < 703
  · left
    rw [if_neg (show ¬ (703 : Int32) ≤ nI i from nI_ge (b := 703) c (by decide))]
    simp (disch := omega) only [gck, nI_clamp]
    rw [nI_1]
    refine ⟨_, rfl, ⟨rfl, fun k j hk => (si1 hk).trans (F k j hk), F2, fun j hj => ?_⟩, c⟩
    show gi (si ν 61 i (gi ν 62 i)) 61 j = gi ρ 62 j
    rw [gi_si]
    by_cases d : j = i
    · rw [if_pos ⟨rfl, d⟩, d]; exact F 62 i (by decide)
    · rw [if_neg (fun w => d w.2)]; exact G j (by omega)
  · right
    have e : i = 703 := by omega
    subst e
    exact ⟨_, if_pos (show (703 : Int32) ≤ nI 703 from nI_le (a := 703) (Nat.le_refl _) (by decide)), F, F2, G⟩
theorem m_cp66 (ρ : gM) : ∃ ν, gloop (fun t => b_X8_load_183 t.1 t.2) gFuel ((0 : Int32), ρ) = some ν ∧ (∀ k i, k ≠ 66 → ν.1 k i = ρ.1 k i) ∧ ν.2 = ρ.2 ∧ ∀ j, j < 137 → gi ν 66 j = gi ρ 67 j := by
  refine gloop_rel (body := fun t => b_X8_load_183 t.1 t.2) (fun i t => t.1 = nI i ∧ (∀ k j, k ≠ 66 → t.2.1 k j = ρ.1 k j) ∧ t.2.2 = ρ.2 ∧ ∀ j, j < i → gi t.2 66 j = gi ρ 67 j) (fun ν => (∀ k j, k ≠ 66 → ν.1 k j = ρ.1 k j) ∧ ν.2 = ρ.2 ∧ ∀ j, j < 137 → gi ν 66 j = gi ρ 67 j) 137 (fun i t hi hR => ?_) (by unfold gFuel; omega) (s0 := (nI 0, ρ)) ⟨rfl, fun _ _ _ => rfl, rfl, fun j hj => absurd hj (Nat.not_lt_zero _)⟩
  obtain ⟨x, ν⟩ := t
  obtain ⟨a1, F, F2, G⟩ := hR
  have a1 : x = nI i := a1
  subst a1
  replace F : ∀ k j, k ≠ 66 → ν.1 k j = ρ.1 k j := F
  replace G : ∀ j, j < i → gi ν 66 j = gi ρ 67 j := G
  show (∃ t, b_X8_load_183 (nI i) ν = _ ∧ _) ∨ ∃ r, b_X8_load_183 (nI i) ν = _ ∧ _
  unfold b_X8_load_183
  by_cases c : i < 137
  · left
    rw [if_neg (show ¬ (137 : Int32) ≤ nI i from nI_ge (b := 137) c (by decide))]
    simp (disch := omega) only [gck, nI_clamp]
    rw [nI_1]
    refine ⟨_, rfl, ⟨rfl, fun k j hk => (si1 hk).trans (F k j hk), F2, fun j hj => ?_⟩, c⟩
    show gi (si ν 66 i (gi ν 67 i)) 66 j = gi ρ 67 j
    rw [gi_si]
    by_cases d : j = i
    · rw [if_pos ⟨rfl, d⟩, d]; exact F 67 i (by decide)
    · rw [if_neg (fun w => d w.2)]; exact G j (by omega)
  · right
    have e : i = 137 := by omega
    subst e
    exact ⟨_, if_pos (show (137 : Int32) ≤ nI 137 from nI_le (a := 137) (Nat.le_refl _) (by decide)), F, F2, G⟩
end LO

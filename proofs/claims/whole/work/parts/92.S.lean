/-! the two sides go together through each operation -/
theorem sim_all (hl : ∀ μ (s1 : Int32), Rel μ → simOK μ (f_case_1 s1 μ)) (μ : gM) (R : Rel μ) (k : Nat) (s1 s2 s3 s4 s5 : Int32) : ∃ μ2, f_case k s1 s2 s3 s4 s5 μ = some μ2 ∧ Rel μ2 := by
  match k with
  | 0 => exact sim_0 s1 s2 s3 s4 s5 R
  | 1 => exact hl μ s1 R
  | 2 => exact sim_2  R
  | 3 => exact sim_3  R
  | 4 => exact sim_4  R
  | 5 => exact sim_5  R
  | 6 => exact sim_6  R
  | 7 => exact sim_7  R
  | 8 => exact sim_8 s1 R
  | 9 => exact sim_9 s1 R
  | 10 => exact sim_10 s1 R
  | 11 => exact sim_11 s1 R
  | 12 => exact sim_12 s1 s2 R
  | 13 => exact sim_13 s1 R
  | 14 => exact sim_14 s1 s2 R
  | 15 => exact sim_15 s1 s2 s3 R
  | 16 => exact sim_16 s1 s2 R
  | 17 => exact sim_17 s1 R
  | 18 => exact sim_18 s1 R
  | 19 => exact sim_19 s1 R
  | 20 => exact sim_20 s1 R
  | 21 => exact sim_21 s1 s2 R
  | 22 => exact sim_22 s1 R
  | 23 => exact sim_23 s1 R
  | 24 => exact sim_24 s1 R
  | 25 => exact sim_25 s1 R
  | 26 => exact sim_26  R
  | 27 => exact sim_27 s1 s2 R
  | 28 => exact sim_28 s1 s2 R
  | 29 => exact sim_29 s1 s2 R
  | 30 => exact sim_30  R
  | 31 => exact sim_31  R
  | 32 => exact sim_32  R
  | 33 => exact sim_33 s1 s2 R
  | 34 => exact sim_34 s1 R
  | 35 => exact sim_35 s1 R
  | 36 => exact sim_36 s1 R
  | 37 => exact sim_37  R
  | 38 => exact sim_38  R
  | 39 => exact sim_39  R
  | 40 => exact sim_40 s1 R
  | 41 => exact sim_41 s1 s2 R
  | 42 => exact sim_42 s1 R
  | 43 => exact sim_43  R
  | 44 => exact sim_44  R
  | 45 => exact sim_45 s1 R
  | 46 => exact sim_46 s1 R
  | 47 => exact sim_47  R
  | 48 => exact sim_48  R
  | 49 => exact sim_49  R
  | 50 => exact sim_50  R
  | 51 => exact sim_51  R
  | 52 => exact sim_52 s1 s2 R
  | 53 => exact sim_53 s1 R
  | 54 => exact sim_54 s1 s2 s3 s4 R
  | 55 => exact sim_55 s1 s2 s3 s4 s5 R
  | 56 => exact sim_56 s1 s2 R
  | 57 => exact sim_57 s1 s2 R
  | 58 => exact sim_58 s1 R
  | 59 => exact sim_59 s1 R
  | 60 => exact sim_60 s1 s2 R
  | 61 => exact sim_61  R
  | n + 62 => exact ⟨μ, rfl, R⟩
/-- the start -/
theorem res_run : ∃ μ1, f_X8_reset_61 gμ0 = some μ1 ∧ (∀ k i, k ≠ 61 → μ1.1 k i = gμ0.1 k i) ∧ μ1.2 = gμ0.2 ∧ gi μ1 61 0 = 40 ∧ gi μ1 61 1 = 60 ∧ gi μ1 61 2 = 20 ∧ (∀ p, p < 16 → gi μ1 61 (6 + p) = -1) ∧ gi μ1 61 702 = 0 := by
  obtain ⟨ν, h1, F, F2, G⟩ := gloop_rel (body := fun t => b_X8_reset_61_2 t.1 t.2) (fun i t => t.1 = nI i ∧ (∀ k j, k ≠ 61 → t.2.1 k j = gμ0.1 k j) ∧ t.2.2 = gμ0.2 ∧ gi t.2 61 702 = 0) (fun ν => (∀ k j, k ≠ 61 → ν.1 k j = gμ0.1 k j) ∧ ν.2 = gμ0.2 ∧ gi ν 61 702 = 0) 703 (fun i t hi hR => by
    obtain ⟨x, ν⟩ := t
    obtain ⟨a1, F, F2, G⟩ := hR
    have a1 : x = nI i := a1
    subst a1
    show (∃ t, b_X8_reset_61_2 (nI i) ν = _ ∧ _) ∨ ∃ r, b_X8_reset_61_2 (nI i) ν = _ ∧ _
    unfold b_X8_reset_61_2
    by_cases c : i < 703
    · left
      rw [if_neg (show ¬ (703 : Int32) ≤ nI i from nI_ge (b := 703) c (by decide))]
      simp (disch := omega) only [gck, nI_clamp]
      rw [nI_1]
      refine ⟨_, rfl, ⟨rfl, fun k j hk => (si1 hk).trans (F k j hk), F2, ?_⟩, c⟩
      show gi (si ν 61 i 0) 61 702 = 0
      rw [gi_si]
      split
      · rfl
      · exact G
    · right
      have e : i = 703 := by omega
      subst e
      exact ⟨_, if_pos (show (703 : Int32) ≤ nI 703 from nI_le (a := 703) (Nat.le_refl _) (by decide)), F, F2, G⟩) (by unfold gFuel; omega) (s0 := (nI 0, gμ0)) ⟨rfl, fun _ _ _ => rfl, rfl, rfl⟩
  obtain ⟨ν3, h3⟩ : ∃ ν3, ν3 = si (si (si ν 61 0 (40 : Int32)) 61 1 (60 : Int32)) 61 2 (20 : Int32) := ⟨_, rfl⟩
  have F3 : ∀ k j, k ≠ 61 → ν3.1 k j = gμ0.1 k j := fun k j hk => by
    rw [h3]
    exact (si1 hk).trans ((si1 hk).trans ((si1 hk).trans (F k j hk)))
  have f3 : ν3.2 = gμ0.2 := by rw [h3]; exact F2
  have G3 : gi ν3 61 0 = 40 ∧ gi ν3 61 1 = 60 ∧ gi ν3 61 2 = 20 ∧ gi ν3 61 702 = 0 := by
    rw [h3]
    refine ⟨?_, ?_, gi_sii, ?_⟩
    · rw [gi_sij (by decide), gi_sij (by decide), gi_sii]
    · rw [gi_sij (by decide), gi_sii]
    · rw [gi_sij (by decide), gi_sij (by decide), gi_sij (by decide)]; exact G
  obtain ⟨ρ, h4, F4, f4, G4, H4⟩ := gloop_rel (body := fun t => b_X8_reset_61_36 t.1 t.2) (fun i t => t.1 = nI i ∧ (∀ k j, k ≠ 61 → t.2.1 k j = gμ0.1 k j) ∧ t.2.2 = gμ0.2 ∧ (gi t.2 61 0 = 40 ∧ gi t.2 61 1 = 60 ∧ gi t.2 61 2 = 20 ∧ gi t.2 61 702 = 0) ∧ ∀ p, p < i → gi t.2 61 (6 + p) = -1) (fun ν => (∀ k j, k ≠ 61 → ν.1 k j = gμ0.1 k j) ∧ ν.2 = gμ0.2 ∧ (gi ν 61 0 = 40 ∧ gi ν 61 1 = 60 ∧ gi ν 61 2 = 20 ∧ gi ν 61 702 = 0) ∧ ∀ p, p < 16 → gi ν 61 (6 + p) = -1) 16 (fun i t hi hR => by
    obtain ⟨x, ν⟩ := t
    obtain ⟨a1, F, F2, ⟨G0, G1, G2, G7⟩, H⟩ := hR
    have a1 : x = nI i := a1
    subst a1
    replace H : ∀ p, p < i → gi ν 61 (6 + p) = -1 := H
    show (∃ t, b_X8_reset_61_36 (nI i) ν = _ ∧ _) ∨ ∃ r, b_X8_reset_61_36 (nI i) ν = _ ∧ _
    unfold b_X8_reset_61_36
    by_cases c : i < 16
    · left
      rw [if_neg (ge16 c)]
      simp (disch := omega) only [n6, nI_add, gck, nI_clamp]
      rw [nI_1]
      refine ⟨_, rfl, ⟨rfl, fun k j hk => (si1 hk).trans (F k j hk), F2, ⟨(gi_sij (by omega)).trans G0, (gi_sij (by omega)).trans G1, (gi_sij (by omega)).trans G2, (gi_sij (by omega)).trans G7⟩, fun p hp => ?_⟩, c⟩
      show gi (si ν 61 (6 + i) (-1)) 61 (6 + p) = -1
      rw [gi_si]
      by_cases d : p = i
      · rw [if_pos ⟨rfl, by rw [d]⟩]
      · rw [if_neg (by omega)]; exact H p (by omega)
    · right
      have e : i = 16 := by omega
      subst e
      exact ⟨_, if_pos (show nI 16 ≤ nI 16 from nI_le (Nat.le_refl _) (by decide)), F, F2, ⟨G0, G1, G2, G7⟩, H⟩) (by unfold gFuel; omega) (s0 := (nI 0, ν3)) ⟨rfl, F3, f3, G3, fun p hp => absurd hp (Nat.not_lt_zero _)⟩
  refine ⟨ρ, ?_, F4, f4, G4.1, G4.2.1, G4.2.2.1, H4, G4.2.2.2⟩
  unfold f_X8_reset_61
  rw [show gloop (fun t => b_X8_reset_61_2 t.1 t.2) gFuel ((0 : Int32), gμ0) = _ from h1, Option.bind_some]
  simp only [gckb (show gIn (0 : Int32) 703 by decide), gckb (show gIn (1 : Int32) 703 by decide), gckb (show gIn (2 : Int32) 703 by decide)]
  rw [show (0 : Int32).toNatClampNeg = 0 by decide, show (1 : Int32).toNatClampNeg = 1 by decide, show (2 : Int32).toNatClampNeg = 2 by decide, ← h3, show gloop (fun t => b_X8_reset_61_36 t.1 t.2) gFuel ((0 : Int32), ν3) = _ from h4]
  rfl
theorem rel_0 : ∃ μ1, f_X8_reset_61 gμ0 = some μ1 ∧ (μ1.2 77 = fun _ => 0) ∧ Rel μ1 := by
  obtain ⟨μ1, h1, F, f, g0, g1, g2, g6, g7⟩ := res_run
  refine ⟨μ1, h1, by rw [f]; rfl, ?_⟩
  have nvN : ∀ a b, a < 13 → nv 34 μ1 a b = gμ0.1 (34 + a) b := fun a b ha => by
    show (if a < 13 then μ1.1 (34 + a) b else 0) = _
    rw [if_pos ha, F (34 + a) b (by omega)]
  have z0 : ∀ i, nv 34 μ1 0 i = 0 := fun i => (nvN 0 i (by decide)).trans rfl
  have L : nL (nv 34 μ1) = 0 := by show (nv 34 μ1 0 0).toNatClampNeg = 0; rw [z0]; rfl
  have P : nP (nv 34 μ1) = 0 := by show (nv 34 μ1 0 1).toNatClampNeg = 0; rw [z0]; rfl
  have N : nN (nv 34 μ1) = 0 := by show (nv 34 μ1 0 2).toNatClampNeg = 0; rw [z0]; rfl
  have T : nT (nv 34 μ1) = 0 := by show (nv 34 μ1 0 3).toNatClampNeg = 0; rw [z0]; rfl
  have A : nA (nv 34 μ1) = 0 := by show (nv 34 μ1 0 4).toNatClampNeg = 0; rw [z0]; rfl
  have s0 : nv 34 μ1 1 0 = 40 := (nvN 1 0 (by decide)).trans (by decide +kernel)
  have s1 : nv 34 μ1 1 1 = 60 := (nvN 1 1 (by decide)).trans (by decide +kernel)
  have s2 : nv 34 μ1 1 2 = 20 := (nvN 1 2 (by decide)).trans (by decide +kernel)
  refine ⟨⟨⟨by rw [z0, L]; rfl, by rw [z0, P]; rfl, by rw [z0, N]; rfl, by rw [z0, T]; rfl, by rw [z0, A]; rfl⟩, ⟨by omega, by omega, by omega, by omega, by rw [A, N]; decide⟩, ⟨by rw [s0]; unfold inR; decide, by rw [s1]; unfold inR; decide, by rw [s2]; unfold inR; decide⟩, fun l hl => by omega, fun p hp => by omega, fun k hk => by omega, fun t ht => by omega⟩, ⟨fun i hi => ?_, fun l hl => by omega, fun p hp => by omega, fun p _ hp => g6 p hp, fun k hk => by omega, fun k hk => by omega, fun k hk => by omega⟩, ⟨⟨?_, ?_, ?_, ?_⟩, fun k hk => by omega, fun t ht => by omega, fun l hl => by omega, fun p hp => by omega⟩, ⟨Or.inl ?_, ?_, fun h => ?_⟩, ?_, ⟨0, by omega, ?_, ?_, fun i hi => absurd hi (Nat.not_lt_zero _)⟩, 0, 0, by omega, by omega, ?_, ?_, ?_, trivial⟩
  · match i, hi with
    | 0, _ => exact g0.trans s0.symm
    | 1, _ => exact g1.trans s1.symm
    | 2, _ => exact g2.trans s2.symm
  · rw [z0]; exact F 66 0 (by decide)
  · rw [z0]; exact F 66 1 (by decide)
  · rw [z0]; exact F 66 2 (by decide)
  · rw [z0]; exact F 66 3 (by decide)
  · exact F 20 2 (by decide)
  · exact g7.trans (F 20 2 (by decide)).symm
  · have e : μ1.1 20 2 = 0 := F 20 2 (by decide)
    rw [e] at h; exact absurd h (by decide)
  · exact (F 0 7 (by decide)).trans (F 60 18 (by decide)).symm
  · exact F 1 1 (by decide)
  · exact F 60 10 (by decide)
  · exact F 28 0 (by decide)
  · exact F 60 5 (by decide)
  · exact F 28 1 (by decide)

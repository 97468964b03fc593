/-! load -/
section LD
variable {μ ρ ν : gM} {n : Nat}
theorem c_clear (μ : gM) : ∃ ν, f_X3b_clear μ = some ν ∧ (∀ k i, k ≠ 47 → k ≠ 48 → ν.1 k i = μ.1 k i) ∧ ν.2 = μ.2 ∧ (∀ i, i < 5 → gi ν 47 i = 0) ∧ ∀ i, i < 3 → gi ν 48 i = sc 4 i := by
  obtain ⟨μ0, e0⟩ : ∃ μ0, μ0 = si (si (si (si (si μ 47 0 (0 : Int32)) 47 1 (0 : Int32)) 47 2 (0 : Int32)) 47 3 (0 : Int32)) 47 4 (0 : Int32) := ⟨_, rfl⟩
  obtain ⟨ν, h, Z⟩ := gloop_rel (body := fun t => b_X3b_clear_27 t.1 t.2) (fun i t => ∃ ν, t = (nI i, ν) ∧ (∀ k j, k ≠ 48 → ν.1 k j = μ0.1 k j) ∧ ν.2 = μ0.2 ∧ ∀ j, j < i → gi ν 48 j = sc 4 j) (fun ν => (∀ k j, k ≠ 48 → ν.1 k j = μ0.1 k j) ∧ ν.2 = μ0.2 ∧ ∀ j, j < 3 → gi ν 48 j = sc 4 j) 3 (fun i t hi hR => by
    obtain ⟨ν, rfl, F, F2, V⟩ := hR
    show (∃ t, b_X3b_clear_27 (nI i) ν = _ ∧ _) ∨ ∃ r, b_X3b_clear_27 (nI i) ν = _ ∧ _
    unfold b_X3b_clear_27
    by_cases c : i < 3
    · left
      rw [if_neg (show ¬ (3 : Int32) ≤ nI i from nI_ge (b := 3) c (by decide)), gck c (by decide), gck c (by decide), nI_clamp (by omega), nI_1]
      refine ⟨_, rfl, ⟨_, rfl, fun k j hk => (gi_sik hk).trans (F k j hk), F2, fun j hj => ?_⟩, c⟩
      by_cases d : j = i
      · rw [d]; exact gi_sii
      · exact (gi_sij d).trans (V j (by omega))
    · right
      have z : i = 3 := by omega
      subst z
      exact ⟨_, if_pos (show (3 : Int32) ≤ nI 3 by decide), F, F2, V⟩) (by unfold gFuel; omega) (s0 := ((0 : Int32), μ0)) ⟨μ0, rfl, fun _ _ _ => rfl, rfl, fun j hj => absurd hj (Nat.not_lt_zero _)⟩
  refine ⟨ν, ?_, fun k i h1 h2 => ?_, ?_, fun i hi => ?_, Z.2.2⟩
  · unfold f_X3b_clear
    rw [← e0, h]; rfl
  · rw [Z.1 k i h2, e0]
    show gi _ k i = gi μ k i
    rw [gi_sik h1, gi_sik h1, gi_sik h1, gi_sik h1, gi_sik h1]
  · rw [Z.2.1, e0]; rfl
  · rw [show gi ν 47 i = gi μ0 47 i from Z.1 47 i (by decide), e0]
    match i, hi with
    | 0, _ => rfl
    | 1, _ => rfl
    | 2, _ => rfl
    | 3, _ => rfl
    | 4, _ => rfl
theorem sc4 : sc 4 0 = 40 ∧ sc 4 1 = 60 ∧ sc 4 2 = 20 := ⟨by decide +kernel, by decide +kernel, by decide +kernel⟩
theorem DR_0 (h47 : ∀ i, i < 5 → gi μ 47 i = 0) (h48 : ∀ i, i < 3 → gi μ 48 i = sc 4 i) (r0 : gi ρ 62 0 = 40) (r1 : gi ρ 62 1 = 60) (r2 : gi ρ 62 2 = 20) (r6 : ∀ p, p < 16 → gi ρ 62 (6 + p) = -1) (r7 : gi ρ 62 702 = 0) (z : ∀ j, j < 137 → gi ρ 67 j = 0) (h19 : gi ρ 60 19 = gi μ 1 9) : DR μ ρ := by
  have v0 : ∀ i, i < 5 → nv 47 μ 0 i = 0 := h47
  have v1 : ∀ i, i < 3 → nv 47 μ 1 i = sc 4 i := h48
  have L : nL (nv 47 μ) = 0 := nat_of (v0 0 (by decide)) (by decide)
  have P : nP (nv 47 μ) = 0 := nat_of (v0 1 (by decide)) (by decide)
  have N : nN (nv 47 μ) = 0 := nat_of (v0 2 (by decide)) (by decide)
  have T : nT (nv 47 μ) = 0 := nat_of (v0 3 (by decide)) (by decide)
  have A : nA (nv 47 μ) = 0 := nat_of (v0 4 (by decide)) (by decide)
  refine ⟨⟨⟨?_, ?_, ?_, ?_, ?_⟩, ?_, ?_, fun l hl => ?_, fun p hp => ?_, fun k hk => ?_, fun t ht => ?_⟩, ?_, ?_, h19, r7⟩
  · rw [L]; exact v0 0 (by decide)
  · rw [P]; exact v0 1 (by decide)
  · rw [N]; exact v0 2 (by decide)
  · rw [T]; exact v0 3 (by decide)
  · rw [A]; exact v0 4 (by decide)
  · rw [L, P, N, T, A]; decide
  · rw [v1 0 (by decide), v1 1 (by decide), v1 2 (by decide), sc4.1, sc4.2.1, sc4.2.2]; decide
  · rw [L] at hl; exact absurd hl (Nat.not_lt_zero _)
  · rw [P] at hp; exact absurd hp (Nat.not_lt_zero _)
  · rw [N] at hk; exact absurd hk (Nat.not_lt_zero _)
  · rw [T] at ht; exact absurd ht (Nat.not_lt_zero _)
  · unfold DM
    rw [L, P, N, A]
    refine ⟨fun i hi => ?_, fun l hl => absurd hl (Nat.not_lt_zero _), fun p hp => absurd hp (Nat.not_lt_zero _), fun p hp hp2 => r6 p hp2, fun k hk => absurd hk (Nat.not_lt_zero _), fun k hk => absurd hk (Nat.not_lt_zero _), fun k hk => absurd hk (Nat.not_lt_zero _)⟩
    rw [v1 i hi]
    match i, hi with
    | 0, _ => exact r0.trans sc4.1.symm
    | 1, _ => exact r1.trans sc4.2.1.symm
    | 2, _ => exact r2.trans sc4.2.2.symm
  · unfold FM
    rw [L, P, N, T]
    exact ⟨⟨(z 0 (by decide)).trans (v0 0 (by decide)).symm, (z 1 (by decide)).trans (v0 1 (by decide)).symm, (z 2 (by decide)).trans (v0 2 (by decide)).symm, (z 3 (by decide)).trans (v0 3 (by decide)).symm⟩, fun k hk => absurd hk (Nat.not_lt_zero _), fun k hk => absurd hk (Nat.not_lt_zero _), fun k hk => absurd hk (Nat.not_lt_zero _), fun k hk => absurd hk (Nat.not_lt_zero _)⟩
/-- what both sides keep over a text -/
def KL (μ ν : gM) : Prop := (∀ k i, (k < 47 ∨ 60 ≤ k) → (k ≠ 1 ∨ i < 2 ∨ 9 < i) → ν.1 k i = μ.1 k i) ∧ ν.2 = μ.2
def KO (μ ν : gM) : Prop := (∀ k i, k ≠ 62 → k ≠ 67 → (k ≠ 60 ∨ i < 11 ∨ 20 < i) → ν.1 k i = μ.1 k i) ∧ ∀ k i, (k ≠ 60 ∨ i ≠ 15) → ν.2 k i = μ.2 k i
def mLd (p1 : Int32) (ρ : gM) : Option gM := Option.bind (f_X8_reset_62 (si (si (si (si (si (si ρ 60 11 p1) 60 12 (0 : Int32)) 60 17 (0 : Int32)) 60 18 (-1 : Int32)) 60 19 (0 : Int32)) 60 20 (0 : Int32))) (fun q3 => Option.bind (gloop (fun t => b_X8_load_59 t.1 t.2) gFuel ((0 : Int32), q3)) (fun q6 => Option.bind (f_X8_advance q6) (fun q7 => gloop (fun t => b_X8_load_83 t) gFuel q7)))
theorem ld (hn : n ≤ 1200) (T : ∀ j, j < n → gi ρ 68 j = gi μ 2 j ∧ inR (-128) 127 (gi μ 2 j)) : ∃ c ν ρf, f_X4_readText (nI n) μ = some (c, ν) ∧ mLd (nI n) ρ = some ρf ∧ KL μ ν ∧ KO ρ ρf ∧
    ((∃ x, x < 2 ^ 31 ∧ c = nI x ∧ gi ρf 60 17 = 0 ∧ gi ρf 60 18 = -1 ∧ gi ρf 60 20 = c ∧ DR ν ρf) ∨ (c < 0 ∧ gi ρf 60 17 = c ∧ gi ρf 60 18 = gi ν 1 3)) := by
  obtain ⟨μ0, e0⟩ : ∃ μ0, μ0 = si (si (si μ 1 2 (nI n)) 1 4 (0 : Int32)) 1 9 (0 : Int32) := ⟨_, rfl⟩
  obtain ⟨ρ0, f0⟩ : ∃ ρ0, ρ0 = si (si (si (si (si (si ρ 60 11 (nI n)) 60 12 (0 : Int32)) 60 17 (0 : Int32)) 60 18 (-1 : Int32)) 60 19 (0 : Int32)) 60 20 (0 : Int32) := ⟨_, rfl⟩
  obtain ⟨μ1, c1, cF, cF2, c47, c48⟩ := c_clear μ0
  obtain ⟨ρ1, r1, rF, rF2, m0, m1, m2, m6, m7⟩ := m_res62 ρ0
  obtain ⟨ρ2, s1, sF, sF2, s0⟩ := m_clr67 ρ1
  have cF : ∀ k i, k ≠ 47 → k ≠ 48 → gi μ1 k i = gi μ0 k i := cF
  have o0 : ∀ k i, k ≠ 1 → gi μ0 k i = gi μ k i := fun k i h => by rw [e0, gi_sik h, gi_sik h, gi_sik h]
  have w0 : ∀ k i, k ≠ 60 → gi ρ0 k i = gi ρ k i := fun k i h => by rw [f0, gi_sik h, gi_sik h, gi_sik h, gi_sik h, gi_sik h, gi_sik h]
  have r2 : ∀ k i, k ≠ 62 → k ≠ 67 → gi ρ2 k i = gi ρ0 k i := fun k i h1 h2 => (sF k i h2).trans (rF k i h1)
  have h12 : gi μ1 1 2 = nI n := (cF 1 2 (by decide) (by decide)).trans (by rw [e0, gi_sij (by decide), gi_sij (by decide), gi_sii])
  have h14 : gi μ1 1 4 = nI 0 := (cF 1 4 (by decide) (by decide)).trans (by rw [e0, gi_sij (by decide), gi_sii]; rfl)
  have h19 : gi μ1 1 9 = 0 := (cF 1 9 (by decide) (by decide)).trans (by rw [e0, gi_sii])
  have t12 : gi μ1 2 = gi μ 2 := funext fun j => (cF 2 j (by decide) (by decide)).trans (o0 2 j (by decide))
  have q11 : gi ρ2 60 11 = nI n := (r2 60 11 (by decide) (by decide)).trans (by rw [f0, gi_sij (by decide), gi_sij (by decide), gi_sij (by decide), gi_sij (by decide), gi_sij (by decide), gi_sii])
  have q12 : gi ρ2 60 12 = nI 0 := (r2 60 12 (by decide) (by decide)).trans (by rw [f0, gi_sij (by decide), gi_sij (by decide), gi_sij (by decide), gi_sij (by decide), gi_sii]; rfl)
  have q17 : gi ρ2 60 17 = 0 := (r2 60 17 (by decide) (by decide)).trans (by rw [f0, gi_sij (by decide), gi_sij (by decide), gi_sij (by decide), gi_sii])
  have q18 : gi ρ2 60 18 = -1 := (r2 60 18 (by decide) (by decide)).trans (by rw [f0, gi_sij (by decide), gi_sij (by decide), gi_sii])
  have q19 : gi ρ2 60 19 = 0 := (r2 60 19 (by decide) (by decide)).trans (by rw [f0, gi_sij (by decide), gi_sii])
  have q20 : gi ρ2 60 20 = 0 := (r2 60 20 (by decide) (by decide)).trans (by rw [f0, gi_sii])
  obtain ⟨μ2, k, s, e, a1, F2, tk, a3, a4, a5, a6, a7⟩ := c_adv hn h12 (Nat.zero_le n) h14
  have TX : TXm (gi μ 2) n ρ2 := ⟨hn, q11, fun j hj => ⟨((r2 68 j (by decide) (by decide)).trans (w0 68 j (by decide))).trans (T j hj).1, (T j hj).2⟩⟩
  obtain ⟨ρ3, k', s', e', b1, G2, tk', b3, b4, b5, b6, b7⟩ := m_adv TX (Nat.zero_le n) q12
  rw [t12] at tk a6 a7
  obtain ⟨rfl, rfl, rfl⟩ := Tok_u tk tk'
  have t2 : gi μ2 2 = gi μ 2 := (funext fun j => F2.1 2 j (by omega) : gi μ2 2 = gi μ1 2).trans t12
  have R : RD n 0 μ2 ρ3 := by
    refine ⟨⟨k, s, e, ⟨hn, (F2.1 1 2 (by omega)).trans h12, ?_, a3, a4, a5, ?_, ?_⟩, ?_⟩, (G2.1 60 17 (by omega)).trans q17, (G2.1 60 18 (by omega)).trans q18⟩
    · rw [t2]; exact tk
    · rw [t2]; exact a6
    · rw [t2]; exact a7
    · rw [t2]; exact ⟨TX.mf G2, tk, b3, b4, b5, b6, b7⟩
  have D1 : DR μ1 ρ2 := DR_0 c47 c48 ((sF 62 0 (by decide)).trans m0) ((sF 62 1 (by decide)).trans m1) ((sF 62 2 (by decide)).trans m2) (fun p hp => (sF 62 _ (by decide)).trans (m6 p hp)) ((sF 62 702 (by decide)).trans m7) s0 (q19.trans h19.symm)
  have D : DR μ2 ρ3 := D1.fr F2 G2
  obtain ⟨r, lp, c, ν, ρf, rfl, ml, kc, kn, out⟩ := tx_loop R D ((G2.1 60 20 (by omega)).trans q20)
  refine ⟨c, ν, ρf, ?_, ?_, ⟨fun K i h1 h2 => ?_, ?_⟩, ⟨fun K i h1 h2 h3 => ?_, fun K i h => ?_⟩, out⟩
  · unfold f_X4_readText
    rw [← e0, c1, Option.bind_some, a1, Option.bind_some, lp]; rfl
  · unfold mLd
    rw [← f0, r1, Option.bind_some, s1, Option.bind_some, b1, Option.bind_some]
    exact ml
  · by_cases z : K = 1 ∧ i = 2
    · omega
    · refine (kc.1 K i h1 (by omega)).trans ((F2.1 K i (by omega)).trans ((cF K i (by omega) (by omega)).trans ?_))
      rw [e0]
      show gi _ K i = gi μ K i
      rw [gi_si, if_neg (by omega), gi_si, if_neg (by omega), gi_si, if_neg (by omega)]
  · rw [kc.2, F2.2, cF2, e0]; rfl
  · refine (kn.1 K i h1 h2 (by omega)).trans ((G2.1 K i (by omega)).trans ((r2 K i h1 h2).trans ?_))
    rw [f0]
    show gi _ K i = gi ρ K i
    rw [gi_si, if_neg (by omega), gi_si, if_neg (by omega), gi_si, if_neg (by omega), gi_si, if_neg (by omega), gi_si, if_neg (by omega), gi_si, if_neg (by omega)]
  · refine (kn.2 K i h).trans ((G2.2 K i h).trans ?_)
    rw [sF2, rF2, f0]; rfl
theorem m_load {p1 : Int32} {ρf : gM} (h : f_X8_inRange p1 (0 : Int32) (gi ρ 60 10) (si ρ 60 6 (0 : Int32)) = some true) (hm : mLd p1 (si ρ 60 6 (0 : Int32)) = some ρf) : f_X8_load p1 ρ = j_X8_load_137 ρf := by
  unfold mLd at hm
  obtain ⟨q3, h3, hm⟩ := gbind_e hm
  obtain ⟨q6, h6, hm⟩ := gbind_e hm
  obtain ⟨q7, h7, hm⟩ := gbind_e hm
  unfold f_X8_load
  rw [show gi (si ρ 60 6 (0 : Int32)) 60 10 = gi ρ 60 10 from gi_sij (by decide), h, Option.bind_some, if_neg (show ¬ b2i true = 0 by decide), h3, Option.bind_some, h6, Option.bind_some, h7, Option.bind_some, hm, Option.bind_some]
theorem m_load_no {p1 : Int32} (h : f_X8_inRange p1 (0 : Int32) (gi ρ 60 10) (si ρ 60 6 (0 : Int32)) = some false) : f_X8_load p1 ρ = some ((-2 : Int32), si ρ 60 6 (0 : Int32)) := by
  unfold f_X8_load
  rw [show gi (si ρ 60 6 (0 : Int32)) 60 10 = gi ρ 60 10 from gi_sij (by decide), h, Option.bind_some, if_pos (show b2i false = 0 from rfl)]
end LD

/-! statements read: frames, the draft -/
section SF
variable {μ ρ ν : gM} {n p : Nat} {v : Nat → Nat → Int32}
/-- what the class keeps while it reads; what the model keeps -/
def KC (μ ν : gM) : Prop := (∀ k i, (k < 47 ∨ 60 ≤ k) → (k ≠ 1 ∨ i < 3 ∨ 9 < i) → ν.1 k i = μ.1 k i) ∧ ν.2 = μ.2
def KM (μ ν : gM) : Prop := (∀ k i, k ≠ 62 → k ≠ 67 → (k ≠ 60 ∨ i < 12 ∨ 19 < i) → ν.1 k i = μ.1 k i) ∧ ∀ k i, (k ≠ 60 ∨ i ≠ 15) → ν.2 k i = μ.2 k i
theorem KC.rf (μ : gM) : KC μ μ := ⟨fun _ _ _ _ => rfl, rfl⟩
theorem KM.rf (μ : gM) : KM μ μ := ⟨fun _ _ _ _ _ => rfl, fun _ _ _ => rfl⟩
theorem KC.tr {μ ν ρ : gM} (h : KC μ ν) (h2 : KC ν ρ) : KC μ ρ := ⟨fun k i a b => (h2.1 k i a b).trans (h.1 k i a b), h2.2.trans h.2⟩
theorem KM.tr {μ ν ρ : gM} (h : KM μ ν) (h2 : KM ν ρ) : KM μ ρ := ⟨fun k i a b c => (h2.1 k i a b c).trans (h.1 k i a b c), fun k i a => (h2.2 k i a).trans (h.2 k i a)⟩
theorem AF.kc (h : AF μ ν) : KC μ ν := ⟨fun k i _ b => h.1 k i (by omega), h.2⟩
theorem MF.km (h : MF μ ν) : KM μ ν := ⟨fun k i _ _ c => h.1 k i (by omega), fun k i a => h.2 k i a⟩
theorem KC.xsi {k i : Nat} {x : Int32} (h : KC μ ν) (hk : (47 ≤ k ∧ k < 60) ∨ (k = 1 ∧ 3 ≤ i ∧ i ≤ 9)) : KC μ (si ν k i x) := ⟨fun a b q r => by
  show (if a = k ∧ b = i then x else ν.1 a b) = _
  rw [if_neg (by omega)]; exact h.1 a b q r, h.2⟩
theorem KM.xsi {k i : Nat} {x : Int32} (h : KM μ ν) (hk : k = 62 ∨ k = 67 ∨ (k = 60 ∧ 12 ≤ i ∧ i ≤ 19)) : KM μ (si ν k i x) := ⟨fun a b q r s => by
  show (if a = k ∧ b = i then x else ν.1 a b) = _
  rw [if_neg (by omega)]; exact h.1 a b q r s, h.2⟩
theorem KM.xE {c : Int32} (h : KM μ ν) : KM μ (mE c ν) := (h.xsi (by omega)).xsi (by omega)
theorem nvd_at (j i : Nat) (h : j < 13) : nv 47 μ j i = gi μ (47 + j) i := if_pos h
theorem nvd_cg (h : ∀ k i, 47 ≤ k → k < 60 → ν.1 k i = μ.1 k i) : nv 47 ν = nv 47 μ := by
  funext a b
  show (if a < 13 then ν.1 (47 + a) b else 0) = if a < 13 then μ.1 (47 + a) b else 0
  by_cases c : a < 13
  · rw [if_pos c, if_pos c]; exact h _ _ (by omega) (by omega)
  · rw [if_neg c, if_neg c]
theorem nvd_si {j i : Nat} {x : Int32} (hj : j < 13) : nv 47 (si μ (47 + j) i x) = vset (nv 47 μ) j i x := by
  funext a b
  show (if a < 13 then (if 47 + a = 47 + j ∧ b = i then x else μ.1 (47 + a) b) else 0) = if a = j ∧ b = i then x else (if a < 13 then μ.1 (47 + a) b else 0)
  by_cases c : a = j ∧ b = i
  · rw [if_pos c, if_pos (by omega), if_pos (by omega)]
  · rw [if_neg c, if_neg (show ¬ (47 + a = 47 + j ∧ b = i) from fun w => c ⟨by omega, w.2⟩)]
theorem nvd_af (h : AF μ ν) : nv 47 ν = nv 47 μ := nvd_cg (fun k i a b => h.1 k i (by omega))
/-- the two drafts hold the same -/
def DR (μ ρ : gM) : Prop := CI (nv 47 μ) ∧ DM (nv 47 μ) (ρ.1 62) ∧ FM (nv 47 μ) (ρ.1 67) ∧ gi ρ 60 19 = gi μ 1 9 ∧ gi ρ 62 702 = 0
theorem DR.fr {μ2 ρ2 : gM} (D : DR μ ρ) (F : AF μ μ2) (G : MF ρ ρ2) : DR μ2 ρ2 := by
  obtain ⟨a, b, c, d, e⟩ := D
  unfold DR
  rw [nvd_af F, show ρ2.1 62 = ρ.1 62 from funext fun i => G.1 62 i (by omega), show ρ2.1 67 = ρ.1 67 from funext fun i => G.1 67 i (by omega)]
  exact ⟨a, b, c, (G.1 60 19 (by omega)).trans (d.trans (F.1 1 9 (by omega)).symm), (G.1 62 702 (by omega)).trans e⟩
theorem DR.nm (D : DR μ ρ) : NM (nv 47 μ) μ ρ := ⟨⟨D.1.1.1, D.1.1.2.1, D.1.b.1, D.1.b.2.1, fun _ _ => rfl, fun _ _ => rfl⟩, D.2.2.1.1.1.trans D.1.1.1, D.2.2.1.1.2.1.trans D.1.1.2.1, fun k hk => D.2.2.1.2.2.2.1 k hk, fun k hk => D.2.2.1.2.2.2.2 k hk⟩
theorem NM.fr {μ2 ρ2 : gM} (N : NM v μ ρ) (F : AF μ μ2) (G : MF ρ ρ2) : NM v μ2 ρ2 := by
  obtain ⟨⟨a1, a2, a3, a4, a5, a6⟩, b1, b2, b3, b4⟩ := N
  have c : ∀ k i, k ≠ 1 → gi μ2 k i = gi μ k i := fun k i h => F.1 k i (by omega)
  have m : ∀ i, gi ρ2 67 i = gi ρ 67 i := fun i => G.1 67 i (by omega)
  exact ⟨⟨(c 47 0 (by omega)).trans a1, (c 47 1 (by omega)).trans a2, a3, a4, fun k hk => (c 49 k (by omega)).trans (a5 k hk), fun k hk => (c 51 k (by omega)).trans (a6 k hk)⟩, (m 0).trans b1, (m 1).trans b2, fun k hk => (m _).trans (b3 k hk), fun k hk => (m _).trans (b4 k hk)⟩
def Er (c s : Int32) (ρ : gM) : Prop := gi ρ 60 17 = c ∧ gi ρ 60 18 = s
/-- what a statement comes to -/
def Out (n p : Nat) (b : Bool) (ν ρ2 : gM) : Prop := (b = true ∧ (∃ p2, p ≤ p2 ∧ RD n p2 ν ρ2) ∧ DR ν ρ2) ∨ (b = true ∧ gi ν 1 5 ≠ 3 ∧ Er (-11) (gi ν 1 3) ρ2) ∨ (b = false ∧ gi ν 1 8 < 0 ∧ Er (gi ν 1 8) (gi ν 1 3) ρ2)
def Sim (n p : Nat) (μ ρ : gM) (fc : gM → Option (Bool × gM)) (fm : gM → Option gM) : Prop := ∃ b ν ρ2, fc μ = some (b, ν) ∧ fm ρ = some ρ2 ∧ KC μ ν ∧ KM ρ ρ2 ∧ Out n p b ν ρ2
theorem Er_E (R : RD n p μ ρ) {c : Int32} : Er c (gi μ 1 3) (mE c ρ) := ⟨mE_17, mE_18.trans R.ps⟩
theorem Out.bad {q : Nat} (R : RD n q μ ρ) {c : Int32} (hc : c < 0) : Out n p false (si μ 1 8 c) (mE c ρ) := by
  refine Or.inr (Or.inr ⟨rfl, ?_, ?_⟩)
  · rw [gi_sii]; exact hc
  · rw [gi_sii, gi_sij (by decide)]; exact Er_E R
theorem b2t : (b2i true = 0) = False := eq_false (by decide)
theorem b2f : (b2i false = 0) = True := eq_true rfl
theorem lt0 {c : Int32} (h : c < 0) : gi (mE c ρ) 60 17 ≠ 0 := by
  rw [mE_17]
  exact fun w => absurd h (by rw [w]; decide)
theorem neg_in {x : Int32} (h : inR 0 200 x) : inR (-200) 200 (-x) := by
  unfold inR at h ⊢
  rw [Int32.toInt_neg, Int.bmod_eq_of_le (by omega) (by omega)]
  omega
/-! a level -/
theorem lv_fin (R : RD n p μ ρ) (D : DR μ ρ) (hb : nL (nv 47 μ) < 3) {w y : Int32} (hy : inR (-200) 200 y) : ∃ ν ρ2, j_X4_readLevel_77 w y μ = some (true, ν) ∧ j_X8_parseLevel_75 ((3 : Int32) + nI (nL (nv 47 μ))) y (si ρ 67 ((118 : Int32) + nI (nL (nv 47 μ))).toNatClampNeg w) = some ρ2 ∧ KC μ ν ∧ KM ρ ρ2 ∧ RD n p ν ρ2 ∧ DR ν ρ2 := by
  have N := D.nm
  have k0 : gi μ 47 0 = nI (nL (nv 47 μ)) := N.1.1
  have x0 : gi ρ 67 0 = nI (nL (nv 47 μ)) := N.2.1
  obtain ⟨ν, eν⟩ : ∃ ν, ν = si (si (si μ 49 (nL (nv 47 μ)) w) 50 (nL (nv 47 μ)) y) 47 0 (nI (nL (nv 47 μ) + 1)) := ⟨_, rfl⟩
  obtain ⟨ρ2, eρ⟩ : ∃ ρ2, ρ2 = si (si (si ρ 67 (118 + nL (nv 47 μ)) w) 62 (3 + nL (nv 47 μ)) y) 67 0 (nI (nL (nv 47 μ) + 1)) := ⟨_, rfl⟩
  refine ⟨ν, ρ2, ?_, ?_, ?_, ?_, ?_, ?_⟩
  · unfold j_X4_readLevel_77
    rw [eν]
    simp (disch := omega) only [gi_sik, k0, gck, nI_clamp, nI_1]
  · unfold j_X8_parseLevel_75
    rw [eρ]
    simp (disch := omega) only [n0, n3, n118, nI_add, gck, nI_clamp, gi_sik, gi_sij, x0, nI_1]
  · rw [eν]; exact (((KC.rf _).xsi (by omega)).xsi (by omega)).xsi (by omega)
  · rw [eρ]; exact (((KM.rf _).xsi (by omega)).xsi (by omega)).xsi (by omega)
  · rw [eν, eρ]; exact (((((R.c (by omega)).c (by omega)).c (by omega)).m (by omega)).m (by omega)).m (by omega)
  · have c0 : gi ν 47 0 = nI (nL (nv 47 μ) + 1) := by rw [eν, gi_sii]
    have c2 : gi ν 49 (nL (nv 47 μ)) = w := by rw [eν, gi_sik (by decide), gi_sik (by decide), gi_sii]
    have c3 : gi ν 50 (nL (nv 47 μ)) = y := by rw [eν, gi_sik (by decide), gi_sii]
    have d3 : gi ρ2 62 (3 + nL (nv 47 μ)) = y := by rw [eρ, gi_sik (by decide), gi_sii]
    have dd : ∀ q, q ≠ 3 + nL (nv 47 μ) → gi ρ2 62 q = gi ρ 62 q := fun q hq => by rw [eρ, gi_sik (by decide), gi_sij hq, gi_sik (by decide)]
    have y0 : gi ρ2 67 0 = nI (nL (nv 47 μ) + 1) := by rw [eρ, gi_sii]
    have y1 : gi ρ2 67 (118 + nL (nv 47 μ)) = w := by rw [eρ, gi_sij (by omega), gi_sik (by decide), gi_sii]
    have yy : ∀ q, q ≠ 0 → q ≠ 118 + nL (nv 47 μ) → gi ρ2 67 q = gi ρ 67 q := fun q h1 h2 => by rw [eρ, gi_sij h1, gi_sik (by decide), gi_sij h2]
    have hu : ∀ j i, ¬ (j = 0 ∧ i = 0) → ¬ (j = 2 ∧ i = nL (nv 47 μ)) → ¬ (j = 3 ∧ i = nL (nv 47 μ)) → nv 47 ν j i = nv 47 μ j i := fun j i q0 q2 q3 => by
      by_cases c : j < 13
      · rw [nvd_at j i c, nvd_at j i c, eν, gi_si, if_neg (by omega), gi_si, if_neg (by omega), gi_si, if_neg (by omega)]
      · unfold nv; rw [if_neg c, if_neg c]
    obtain ⟨g1, g2, g3⟩ := GR_level (u := nv 47 ν) (w := w) (c := y) (d2 := ρ2.1 62) (x2 := ρ2.1 67) D.1 D.2.1 D.2.2.1 hb hy c0 c2 c3 hu d3 dd y0 y1 yy
    refine ⟨g1, g2, g3, ?_, (dd 702 (by omega)).trans D.2.2.2.2⟩
    rw [show gi ρ2 60 19 = gi ρ 60 19 by rw [eρ, gi_sik (by decide), gi_sik (by decide), gi_sik (by decide)], show gi ν 1 9 = gi μ 1 9 by rw [eν, gi_sik (by decide), gi_sik (by decide), gi_sik (by decide)]]
    exact D.2.2.2.1
theorem st_level (R : RD n p μ ρ) (D : DR μ ρ) : Sim n p μ ρ f_X4_readLevel f_X8_parseLevel := by
  have N := D.nm
  have hb := D.1.b
  have k0 : gi μ 47 0 = nI (nL (nv 47 μ)) := N.1.1
  by_cases c : nL (nv 47 μ) < 3
  · obtain ⟨μ1, ρ1, p1, a1, -, a1', F1, G1, R1, le1, -, -⟩ := cm_adv R
    have N1 := N.fr F1 G1
    have cc : (nI (nL (nv 47 μ)) < (3 : Int32)) = True := eq_true (nI_lt (b := 3) c (by decide))
    have bg : f_X8_begin (0 : Int32) (3 : Int32) ρ = some (nI (nL (nv 47 μ)), ρ1) := m_begT (j := 0) (cap := 3) (by decide) N.2.1 c (by decide) a1' G1
    rcases cm_newN R1 N1 with ⟨x1, y1⟩ | ⟨cd, x, hc, x1, y1⟩
    · obtain ⟨μ2, ρ2, p2, a2, -, a2', F2, G2, R2, le2, -, -⟩ := cm_adv R1
      have y1 := y1 ρ2 a2'
      rcases cm_ri R2 (lo := 0) (hi := 200) (by decide) with ⟨k2, rg, x2, y2⟩ | ⟨cd, x, hc, x2, y2⟩
      · obtain ⟨μ3, ρ3, p3, a3, -, a3', F3, G3, R3, le3, -, -⟩ := cm_adv R2
        have y2 := y2 ρ3 a3'
        have rg : inR 0 200 (gi μ2 1 7) := rg
        obtain ⟨b, i6, w6, -⟩ := cm_wd R3 (m := 4) (j := 6) (by decide) wk6
        have i6 : f_X4_isWord_6 μ3 = some b := i6
        have D3 : DR μ3 ρ3 := ((D.fr F1 G1).fr F2 G2).fr F3 G3
        have e3 : nv 47 μ3 = nv 47 μ := (nvd_af F3).trans ((nvd_af F2).trans (nvd_af F1))
        have kc3 : KC μ μ3 := (F1.kc.tr F2.kc).tr F3.kc
        have km3 : KM ρ ρ3 := (G1.km.tr G2.km).tr G3.km
        cases b with
        | false =>
          obtain ⟨ν, ρ', h1, h2, h3, h4, h5, h6⟩ := lv_fin (w := gi μ1 1 6) R3 D3 (by rw [e3]; exact c) (y := gi μ2 1 7) ⟨by have := rg.1; omega, rg.2⟩
          rw [e3] at h2
          refine ⟨true, ν, ρ', ?_, ?_, kc3.tr h3, km3.tr h4, Or.inl ⟨rfl, ⟨p3, by omega, h5⟩, h6⟩⟩
          · unfold f_X4_readLevel
            simp only [k0, cc, if_true, a1, Option.bind_some, x1, b2t, if_false, a2, x2, a3, i6, b2f]
            exact h1
          · unfold f_X8_parseLevel
            simp only [bg, Option.bind_some, y1, y2, w6, b2f, if_true]
            unfold j_X8_parseLevel_39
            rw [if_pos R3.2.1, if_pos (show b2i false = 0 from rfl), n118, nI_add, gck (by omega) (by decide), ← nI_add]
            exact h2
        | true =>
          obtain ⟨μ4, ρ4, p4, a4, a4', -, F4, G4, R4, le4, -, -⟩ := cm_adv R3
          have D4 : DR μ4 ρ4 := D3.fr F4 G4
          have e4 : nv 47 μ4 = nv 47 μ := (nvd_af F4).trans e3
          obtain ⟨ν, ρ', h1, h2, h3, h4, h5, h6⟩ := lv_fin (w := gi μ1 1 6) R4 D4 (by rw [e4]; exact c) (y := -(gi μ2 1 7)) (neg_in rg)
          rw [e4] at h2
          refine ⟨true, ν, ρ', ?_, ?_, (kc3.tr F4.kc).tr h3, (km3.tr G4.km).tr h4, Or.inl ⟨rfl, ⟨p4, by omega, h5⟩, h6⟩⟩
          · unfold f_X4_readLevel
            simp only [k0, cc, if_true, a1, Option.bind_some, x1, b2t, if_false, a2, x2, a3, i6, a4]
            exact h1
          · unfold f_X8_parseLevel
            simp only [bg, Option.bind_some, y1, y2, w6, b2t, if_false, a4']
            unfold j_X8_parseLevel_39
            rw [if_pos R4.2.1, if_neg (show ¬ b2i true = 0 by decide), n118, nI_add, gck (by omega) (by decide), ← nI_add]
            exact h2
      · have h17 := lt0 (ρ := ρ2) hc
        refine ⟨false, _, _, ?_, ?_, ((F1.kc.tr F2.kc).xsi (by omega)), (G1.km.tr G2.km).xE, Out.bad R2 hc⟩
        · unfold f_X4_readLevel
          simp only [k0, cc, if_true, a1, Option.bind_some, x1, b2t, if_false, a2, x2, b2f]
        · unfold f_X8_parseLevel
          simp only [bg, Option.bind_some, y1, y2, m_iwE h17, b2f, if_true]
          unfold j_X8_parseLevel_39
          rw [if_neg h17]
    · have h17 := lt0 (ρ := ρ1) hc
      obtain ⟨q, hq⟩ := m_riE h17 0 200
      refine ⟨false, _, _, ?_, ?_, (F1.kc.xsi (by omega)), G1.km.xE, Out.bad R1 hc⟩
      · unfold f_X4_readLevel
        simp only [k0, cc, if_true, a1, Option.bind_some, x1, b2f]
      · unfold f_X8_parseLevel
        simp only [bg, Option.bind_some, y1, hq, m_iwE h17, b2f, if_true]
        unfold j_X8_parseLevel_39
        rw [if_neg h17]
  · have cc : (nI (nL (nv 47 μ)) < (3 : Int32)) = False := eq_false (nI_nlt (b := 3) (by omega) (by omega))
    have bg : f_X8_begin (0 : Int32) (3 : Int32) ρ = some (nI (nL (nv 47 μ)), mE (-15) ρ) := m_begE (j := 0) (cap := 3) (by decide) N.2.1 (by omega) (by omega) R.2.1
    have h17 := lt0 (ρ := ρ) (c := -15) (by decide)
    obtain ⟨x, y1⟩ := m_nnE (N.E (-15)) h17
    obtain ⟨q, hq⟩ := m_riE h17 0 200
    refine ⟨false, si μ 1 8 (-15), _, ?_, ?_, ((KC.rf _).xsi (by omega)), (KM.rf _).xE, Out.bad R (by decide)⟩
    · unfold f_X4_readLevel
      simp only [k0, cc, if_false, f_X4_fail, Option.bind_some]
    · unfold f_X8_parseLevel
      simp only [bg, Option.bind_some, y1, hq, m_iwE h17, b2f, if_true]
      unfold j_X8_parseLevel_39
      rw [if_neg h17]
end SF

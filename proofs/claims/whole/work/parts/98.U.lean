/-! a point; a setting -/
section SP
variable {μ ρ ν : gM} {n p : Nat} {v : Nat → Nat → Int32}
theorem pt_fin (R : RD n p μ ρ) (D : DR μ ρ) (hb : nP (nv 47 μ) < 16) {w y : Int32} (hy : y = -1 ∨ inR 0 9999999 y) : ∃ ν ρ2, j_X4_readPoint_70 w y μ = some (true, ν) ∧ j_X8_parsePoint_39 (nI (nP (nv 47 μ))) w y ρ = some ρ2 ∧ KC μ ν ∧ KM ρ ρ2 ∧ RD n p ν ρ2 ∧ DR ν ρ2 := by
  have N := D.nm
  have k0 : gi μ 47 1 = nI (nP (nv 47 μ)) := N.1.2.1
  have x0 : gi ρ 67 1 = nI (nP (nv 47 μ)) := N.2.2.1
  obtain ⟨ν, eν⟩ : ∃ ν, ν = si (si (si μ 51 (nP (nv 47 μ)) w) 52 (nP (nv 47 μ)) y) 47 1 (nI (nP (nv 47 μ) + 1)) := ⟨_, rfl⟩
  obtain ⟨ρ2, eρ⟩ : ∃ ρ2, ρ2 = si (si (si ρ 67 (121 + nP (nv 47 μ)) w) 62 (6 + nP (nv 47 μ)) y) 67 1 (nI (nP (nv 47 μ) + 1)) := ⟨_, rfl⟩
  refine ⟨ν, ρ2, ?_, ?_, ?_, ?_, ?_, ?_⟩
  · unfold j_X4_readPoint_70
    rw [eν]
    simp (disch := omega) only [gi_sik, k0, gck, nI_clamp, nI_1]
  · unfold j_X8_parsePoint_39
    rw [if_pos R.2.1, eρ]
    simp (disch := omega) only [n1, n6, n121, nI_add, gck, nI_clamp, gi_sik, gi_sij, x0]
  · rw [eν]; exact (((KC.rf _).xsi (by omega)).xsi (by omega)).xsi (by omega)
  · rw [eρ]; exact (((KM.rf _).xsi (by omega)).xsi (by omega)).xsi (by omega)
  · rw [eν, eρ]; exact (((((R.c (by omega)).c (by omega)).c (by omega)).m (by omega)).m (by omega)).m (by omega)
  · have c0 : gi ν 47 1 = nI (nP (nv 47 μ) + 1) := by rw [eν, gi_sii]
    have c2 : gi ν 51 (nP (nv 47 μ)) = w := by rw [eν, gi_sik (by decide), gi_sik (by decide), gi_sii]
    have c3 : gi ν 52 (nP (nv 47 μ)) = y := by rw [eν, gi_sik (by decide), gi_sii]
    have d3 : gi ρ2 62 (6 + nP (nv 47 μ)) = y := by rw [eρ, gi_sik (by decide), gi_sii]
    have dd : ∀ q, q ≠ 6 + nP (nv 47 μ) → gi ρ2 62 q = gi ρ 62 q := fun q hq => by rw [eρ, gi_sik (by decide), gi_sij hq, gi_sik (by decide)]
    have y0 : gi ρ2 67 1 = nI (nP (nv 47 μ) + 1) := by rw [eρ, gi_sii]
    have y1 : gi ρ2 67 (121 + nP (nv 47 μ)) = w := by rw [eρ, gi_sij (by omega), gi_sik (by decide), gi_sii]
    have yy : ∀ q, q ≠ 1 → q ≠ 121 + nP (nv 47 μ) → gi ρ2 67 q = gi ρ 67 q := fun q h1 h2 => by rw [eρ, gi_sij h1, gi_sik (by decide), gi_sij h2]
    have hu : ∀ j i, ¬ (j = 0 ∧ i = 1) → ¬ (j = 4 ∧ i = nP (nv 47 μ)) → ¬ (j = 5 ∧ i = nP (nv 47 μ)) → nv 47 ν j i = nv 47 μ j i := fun j i q0 q2 q3 => by
      by_cases c : j < 13
      · rw [nvd_at j i c, nvd_at j i c, eν, gi_si, if_neg (by omega), gi_si, if_neg (by omega), gi_si, if_neg (by omega)]
      · unfold nv; rw [if_neg c, if_neg c]
    obtain ⟨g1, g2, g3⟩ := GR_point (u := nv 47 ν) (w := w) (c := y) (d2 := ρ2.1 62) (x2 := ρ2.1 67) D.1 D.2.1 D.2.2.1 hb hy c0 c2 c3 hu d3 dd y0 y1 yy
    refine ⟨g1, g2, g3, ?_, (dd 702 (by omega)).trans D.2.2.2.2⟩
    rw [show gi ρ2 60 19 = gi ρ 60 19 by rw [eρ, gi_sik (by decide), gi_sik (by decide), gi_sik (by decide)], show gi ν 1 9 = gi μ 1 9 by rw [eν, gi_sik (by decide), gi_sik (by decide), gi_sik (by decide)]]
    exact D.2.2.2.1
theorem st_point (R : RD n p μ ρ) (D : DR μ ρ) : Sim n p μ ρ f_X4_readPoint f_X8_parsePoint := by
  have N := D.nm
  have hb := D.1.b
  have k0 : gi μ 47 1 = nI (nP (nv 47 μ)) := N.1.2.1
  by_cases c : nP (nv 47 μ) < 16
  · obtain ⟨μ1, ρ1, p1, a1, -, a1', F1, G1, R1, le1, -, -⟩ := cm_adv R
    have N1 := N.fr F1 G1
    have cc : (nI (nP (nv 47 μ)) < (16 : Int32)) = True := eq_true (nI_lt (b := 16) c (by decide))
    have bg : f_X8_begin (1 : Int32) (16 : Int32) ρ = some (nI (nP (nv 47 μ)), ρ1) := m_begT (j := 1) (cap := 16) (by decide) N.2.2.1 c (by decide) a1' G1
    rcases cm_newN R1 N1 with ⟨x1, y1⟩ | ⟨cd, x, hc, x1, y1⟩
    · obtain ⟨μ2, ρ2, p2, a2, -, a2', F2, G2, R2, le2, -, -⟩ := cm_adv R1
      have y1 := y1 ρ2 a2'
      have D2 : DR μ2 ρ2 := (D.fr F1 G1).fr F2 G2
      have e2 : nv 47 μ2 = nv 47 μ := (nvd_af F2).trans (nvd_af F1)
      have kc2 : KC μ μ2 := F1.kc.tr F2.kc
      have km2 : KM ρ ρ2 := G1.km.tr G2.km
      have g2 := R2.2.1
      have kd2 := R2.kd
      by_cases kk : gi μ2 1 5 = 2
      · have kt : (gi μ2 1 5 = (2 : Int32)) = True := eq_true kk
        rcases cm_ri R2 (lo := 0) (hi := 9999999) (by decide) with ⟨k2, rg, x2, y2⟩ | ⟨cd, x, hc, x2, y2⟩
        · obtain ⟨μ3, ρ3, p3, a3, -, a3', F3, G3, R3, le3, -, -⟩ := cm_adv R2
          have y2 := y2 ρ3 a3'
          have rg : inR 0 9999999 (gi μ2 1 7) := rg
          have D3 : DR μ3 ρ3 := D2.fr F3 G3
          have e3 : nv 47 μ3 = nv 47 μ := (nvd_af F3).trans e2
          obtain ⟨ν, ρ', h1, h2, h3, h4, h5, h6⟩ := pt_fin (w := gi μ1 1 6) R3 D3 (by rw [e3]; exact c) (y := gi μ2 1 7) (Or.inr rg)
          rw [e3] at h2
          refine ⟨true, ν, ρ', ?_, ?_, (kc2.tr F3.kc).tr h3, (km2.tr G3.km).tr h4, Or.inl ⟨rfl, ⟨p3, by omega, h5⟩, h6⟩⟩
          · unfold f_X4_readPoint
            simp only [k0, cc, if_true, a1, Option.bind_some, x1, b2t, if_false, a2, kt, x2, a3]
            exact h1
          · unfold f_X8_parsePoint
            simp only [bg, Option.bind_some, y1, g2, kd2, kt, if_true, y2]
            exact h2
        · have h17 := lt0 (ρ := ρ2) hc
          refine ⟨false, _, _, ?_, ?_, (kc2.xsi (by omega)), km2.xE, Out.bad R2 hc⟩
          · unfold f_X4_readPoint
            simp only [k0, cc, if_true, a1, Option.bind_some, x1, b2t, if_false, a2, kt, x2, b2f]
          · unfold f_X8_parsePoint
            simp only [bg, Option.bind_some, y1, g2, kd2, kt, if_true, y2]
            unfold j_X8_parsePoint_39
            rw [if_neg h17]
      · have kt : (gi μ2 1 5 = (2 : Int32)) = False := eq_false kk
        obtain ⟨ν, ρ', h1, h2, h3, h4, h5, h6⟩ := pt_fin (w := gi μ1 1 6) R2 D2 (by rw [e2]; exact c) (y := -1) (Or.inl rfl)
        rw [e2] at h2
        refine ⟨true, ν, ρ', ?_, ?_, kc2.tr h3, km2.tr h4, Or.inl ⟨rfl, ⟨p2, by omega, h5⟩, h6⟩⟩
        · unfold f_X4_readPoint
          simp only [k0, cc, if_true, a1, Option.bind_some, x1, b2t, if_false, a2, kt]
          exact h1
        · unfold f_X8_parsePoint
          simp only [bg, Option.bind_some, y1, g2, kd2, kt, if_true, if_false]
          exact h2
    · have h17 := lt0 (ρ := ρ1) hc
      refine ⟨false, _, _, ?_, ?_, (F1.kc.xsi (by omega)), G1.km.xE, Out.bad R1 hc⟩
      · unfold f_X4_readPoint
        simp only [k0, cc, if_true, a1, Option.bind_some, x1, b2f]
      · unfold f_X8_parsePoint
        simp only [bg, Option.bind_some, y1, eq_false h17, if_false]
        unfold j_X8_parsePoint_38 j_X8_parsePoint_39
        rw [if_neg h17]
  · have cc : (nI (nP (nv 47 μ)) < (16 : Int32)) = False := eq_false (nI_nlt (b := 16) (by omega) (by omega))
    have bg : f_X8_begin (1 : Int32) (16 : Int32) ρ = some (nI (nP (nv 47 μ)), mE (-15) ρ) := m_begE (j := 1) (cap := 16) (by decide) N.2.2.1 (by omega) (by omega) R.2.1
    have h17 := lt0 (ρ := ρ) (c := -15) (by decide)
    obtain ⟨x, y1⟩ := m_nnE (N.E (-15)) h17
    refine ⟨false, si μ 1 8 (-15), _, ?_, ?_, ((KC.rf _).xsi (by omega)), (KM.rf _).xE, Out.bad R (by decide)⟩
    · unfold f_X4_readPoint
      simp only [k0, cc, if_false, f_X4_fail, Option.bind_some]
    · unfold f_X8_parsePoint
      simp only [bg, Option.bind_some, y1, eq_false h17, if_false]
      unfold j_X8_parsePoint_38 j_X8_parsePoint_39
      rw [if_neg h17]
/-! a setting -/
theorem m_least {a : Nat} (ha : a < 3) : f_X8_leastOf (nI a) ρ = some (sc 2 a) := by
  match a, ha with
  | 0, _ => exact congrArg some (by decide +kernel)
  | 1, _ => exact congrArg some (by decide +kernel)
  | 2, _ => exact congrArg some (by decide +kernel)
theorem m_most {a : Nat} (ha : a < 3) : f_X8_mostOf (nI a) ρ = some (sc 3 a) := by
  match a, ha with
  | 0, _ => exact congrArg some (by decide +kernel)
  | 1, _ => exact congrArg some (by decide +kernel)
  | 2, _ => exact congrArg some (by decide +kernel)
theorem st_b {a : Nat} (ha : a < 3) : (sc 2 a).toInt = stLo a ∧ (sc 3 a).toInt = stHi a ∧ (sc 3 a).toInt ≤ 9999999 := by
  match a, ha with
  | 0, _ => exact ⟨by decide +kernel, by decide +kernel, by decide +kernel⟩
  | 1, _ => exact ⟨by decide +kernel, by decide +kernel, by decide +kernel⟩
  | 2, _ => exact ⟨by decide +kernel, by decide +kernel, by decide +kernel⟩
theorem st_here (R : RD n p μ ρ) {μ1 ρ1 : gM} (a1 : f_X4_advance μ = some μ1) (a1' : f_X8_advance ρ = some ρ1) {p1 : Nat} (R1 : RD n p1 μ1 ρ1) :
    (f_X4_readSetting μ = j_X4_readSetting_48 (-1) μ1 ∧ f_X8_parseSetting ρ = j_X8_parseSetting_19 (-1) 0 ρ1) ∨ ∃ a, a < 3 ∧ f_X4_readSetting μ = j_X4_readSetting_48 (nI a) μ1 ∧ f_X8_parseSetting ρ = j_X8_parseSetting_19 (nI a) 1 ρ1 := by
  obtain ⟨b11, i11, w11, -⟩ := cm_wd R1 (m := 9) (j := 11) (by decide) wk11
  obtain ⟨b12, i12, w12, -⟩ := cm_wd R1 (m := 5) (j := 12) (by decide) wk12
  obtain ⟨b13, i13, w13, -⟩ := cm_wd R1 (m := 7) (j := 13) (by decide) wk13
  have i11 : f_X4_isWord_11 μ1 = some b11 := i11
  have i12 : f_X4_isWord_12 μ1 = some b12 := i12
  have i13 : f_X4_isWord_13 μ1 = some b13 := i13
  have c : f_X4_readSetting μ = if b11 = true then j_X4_readSetting_48 0 μ1 else if b12 = true then j_X4_readSetting_48 1 μ1 else if b13 = true then j_X4_readSetting_48 2 μ1 else j_X4_readSetting_48 (-1) μ1 := by
    unfold f_X4_readSetting
    simp only [a1, Option.bind_some, i11, i12, i13]
    cases b11 <;> cases b12 <;> cases b13 <;> rfl
  have m : f_X8_settingHere ρ1 = some (if b11 = true then 0 else if b12 = true then 1 else if b13 = true then 2 else -1) := by
    unfold f_X8_settingHere
    simp only [Option.bind_some, w11, w12, w13]
    cases b11 <;> cases b12 <;> cases b13 <;> rfl
  unfold f_X8_parseSetting
  rw [a1', Option.bind_some, m, Option.bind_some, c]
  cases b11
  · cases b12
    · cases b13
      · exact Or.inl ⟨rfl, rfl⟩
      · exact Or.inr ⟨2, by decide, rfl, rfl⟩
    · exact Or.inr ⟨1, by decide, rfl, rfl⟩
  · exact Or.inr ⟨0, by decide, rfl, rfl⟩
theorem st_setting (R : RD n p μ ρ) (D : DR μ ρ) : Sim n p μ ρ f_X4_readSetting f_X8_parseSetting := by
  obtain ⟨μ1, ρ1, p1, a1, a1', -, F1, G1, R1, le1, -, -⟩ := cm_adv R
  have D1 := D.fr F1 G1
  have g1 := R1.2.1
  unfold Sim
  rcases st_here R a1 a1' R1 with ⟨x1, y1⟩ | ⟨a, ha, x1, y1⟩
  · rw [x1, y1]
    have h17 := lt0 (ρ := ρ1) (c := -11) (by decide)
    refine ⟨false, si μ1 1 8 (-11), _, ?_, ?_, F1.kc.xsi (by omega), G1.km.xE, Out.bad R1 (by decide)⟩
    · unfold j_X4_readSetting_48
      rw [if_pos rfl]; rfl
    · unfold j_X8_parseSetting_19
      rw [m_ck0 g1, Option.bind_some, if_neg h17]
  · rw [x1, y1]
    have an : ¬ nI a = -1 := fun w => nI_pos (show a < 2 ^ 31 by omega) (by rw [w]; decide)
    have ck1 : f_X8_check (1 : Int32) (-11) ρ1 = some ρ1 := m_ck1
    have hs : f_X8_has (gi ρ1 60 19) (nI a) ρ1 = some (decide (((gi μ1 1 9) >>> (nI a &&& 31)) &&& (1 : Int32) = 1)) := by
      unfold f_X8_has
      rw [D1.2.2.2.1]
      by_cases q : ((gi μ1 1 9) >>> (nI a &&& 31)) &&& (1 : Int32) = 1
      · rw [if_pos q, decide_eq_true q]
      · rw [if_neg q, decide_eq_false q]
    unfold j_X4_readSetting_48 j_X8_parseSetting_19
    rw [if_neg an, ck1, Option.bind_some, if_pos g1, hs, Option.bind_some]
    by_cases q : ((gi μ1 1 9) >>> (nI a &&& 31)) &&& (1 : Int32) = 1
    · rw [if_pos q, decide_eq_true q, if_neg (show ¬ b2i true = 0 by decide)]
      have h17 := lt0 (ρ := ρ1) (c := -14) (by decide)
      have h18 : gi (si (mE (-14) ρ1) 60 19 ((gi (mE (-14) ρ1) 60 19) ||| ((1 : Int32) <<< (nI a &&& 31)))) 60 17 ≠ 0 := by rw [gi_sij (by decide)]; exact h17
      refine ⟨false, si μ1 1 8 (-14), si (mE (-14) ρ1) 60 19 ((gi (mE (-14) ρ1) 60 19) ||| ((1 : Int32) <<< (nI a &&& 31))), rfl, ?_, F1.kc.xsi (by omega), (G1.km.xE).xsi (by omega), ?_⟩
      · unfold j_X8_parseSetting_49
        rw [m_ck0 g1, Option.bind_some, m_agE h18, Option.bind_some, if_neg h18]
      · rcases Out.bad (p := p) R1 (c := -14) (by decide) with h | h | ⟨h1, h2, h3, h4⟩
        · exact absurd h.1 (by decide)
        · exact absurd h.1 (by decide)
        · exact Or.inr (Or.inr ⟨h1, h2, (gi_sij (by decide)).trans h3, (gi_sij (by decide)).trans h4⟩)
    · rw [if_neg q, decide_eq_false q, if_pos (show b2i false = 0 from rfl)]
      unfold j_X8_parseSetting_49
      rw [m_ck1, Option.bind_some, D1.2.2.2.1]
      generalize (gi μ1 1 9) ||| ((1 : Int32) <<< (nI a &&& 31)) = z
      have R1' : RD n p1 (si μ1 1 9 z) (si ρ1 60 19 z) := (R1.c (by omega)).m (by omega)
      have D1' : DR (si μ1 1 9 z) (si ρ1 60 19 z) := by
        obtain ⟨d1, d2, d3, d4, d5⟩ := D1
        exact ⟨d1, d2, d3, gi_sii.trans gi_sii.symm, d5⟩
      obtain ⟨μ2, ρ2, p2, a2, -, a2', F2, G2, R2, le2, -, -⟩ := cm_adv R1'
      have D2 := D1'.fr F2 G2
      have kc2 : KC μ μ2 := (F1.kc.xsi (x := z) (by omega)).tr F2.kc
      have km2 : KM ρ ρ2 := (G1.km.xsi (x := z) (by omega)).tr G2.km
      have sb := st_b ha
      have g2 := R2.2.1
      rw [a2, Option.bind_some, a2', Option.bind_some, if_pos g2, m_least ha, Option.bind_some, m_most ha, Option.bind_some]
      simp (disch := omega) only [gck, nI_clamp]
      unfold f_X8_readNumber
      rcases cm_ri R2 (lo := sc 2 a) (hi := sc 3 a) sb.2.2 with ⟨k2, rg, x2, y2⟩ | ⟨cd, x, hc, x2, y2⟩
      · rw [sb.1, sb.2.1] at rg
        have R2' : RD n p2 (si μ2 48 a (gi μ2 1 7)) ρ2 := R2.c (by omega)
        obtain ⟨μ3, ρ3, p3, a3, -, a3', F3, G3, R3, le3, -, -⟩ := cm_adv R2'
        have y2 := y2 ρ3 a3'
        refine ⟨true, μ3, si ρ3 62 a (gi μ2 1 7), ?_, ?_, (kc2.xsi (k := 48) (i := a) (x := gi μ2 1 7) (by omega)).tr F3.kc, (km2.tr G3.km).xsi (by omega), Or.inl ⟨rfl, ⟨p3, by omega, R3.m (by omega)⟩, ?_⟩⟩
        · simp only [x2, Option.bind_some, b2t, if_false]
          rw [a3]; rfl
        · simp only [y2, Option.bind_some]
          rw [if_pos R3.2.1, gck (by omega) (by decide), nI_clamp (by omega)]; rfl
        · obtain ⟨d1, d2, d3, d4, d5⟩ := D2
          have e : nv 47 μ3 = vset (nv 47 μ2) 1 a (gi μ2 1 7) := (nvd_af F3).trans (nvd_si (j := 1) (by decide))
          unfold DR
          rw [e]
          have m3 : ∀ k i, k ≠ 60 → ρ3.1 k i = ρ2.1 k i := fun k i h => G3.1 k i (by omega)
          refine ⟨CI_v1 d1 ha rg, DM_of d1 d2 (y := a) (Or.inl ⟨rfl, ha, rfl⟩) (fun q _ => ?_), ?_, ?_, ?_⟩
          · show (if (62 : Nat) = 62 ∧ q = a then gi μ2 1 7 else ρ3.1 62 q) = if q = a then gi μ2 1 7 else ρ2.1 62 q
            by_cases h : q = a
            · rw [if_pos ⟨rfl, h⟩, if_pos h]
            · rw [if_neg (fun w => h w.2), if_neg h, m3 62 q (by decide)]
          · refine FM_vs (Or.inl rfl) ?_
            rw [show (si ρ3 62 a (gi μ2 1 7)).1 67 = ρ2.1 67 from funext fun i => (gi_sik (by decide)).trans (m3 67 i (by decide))]
            exact d3
          · exact (gi_sik (by decide)).trans ((G3.1 60 19 (by omega)).trans (d4.trans (((gi_sik (by decide) : gi (si μ2 48 a (gi μ2 1 7)) 1 9 = gi μ2 1 9)).symm.trans (F3.1 1 9 (by omega)).symm)))
          · exact (gi_sij (by omega)).trans ((m3 62 702 (by decide)).trans d5)
      · have h17 := lt0 (ρ := ρ2) hc
        refine ⟨false, _, mE cd ρ2, ?_, ?_, (kc2.xsi (by omega)), km2.xE, Out.bad R2 hc⟩
        · simp only [x2, Option.bind_some, b2f, if_true]
        · simp only [y2, Option.bind_some]
          rw [if_neg h17]; rfl
end SP

/-! a test read -/
section STT
variable {μ ρ ν : gM} {n p : Nat} {v : Nat → Nat → Int32}
theorem m_rol {j l : Nat} {ρ2 : gM} (y : f_X8_oldHere (nI j) ρ = some (nI l, ρ)) (a : f_X8_advanceIfGood ρ = some ρ2) : f_X8_readOldName (nI j) ρ = some (nI l, ρ2) := by
  unfold f_X8_readOldName
  rw [y, Option.bind_some, a]; rfl
theorem m_rob {j : Nat} {x c : Int32} (hc : c < 0) (y : f_X8_oldHere (nI j) ρ = some (x, mE c ρ)) : f_X8_readOldName (nI j) ρ = some (x, mE c ρ) := by
  unfold f_X8_readOldName
  rw [y, Option.bind_some, m_agE (lt0 hc)]; rfl
theorem ts_E (h17 : gi ρ 60 17 ≠ 0) (a b c d : Int32) : j_X8_parseTest_29 a b c d ρ = some ρ := by
  unfold j_X8_parseTest_29
  rw [if_neg h17]
theorem st_test (R : RD n p μ ρ) (D : DR μ ρ) : Sim n p μ ρ f_X4_readTest f_X8_parseTest := by
  have N := D.nm
  have hb := D.1.b
  have k0 : gi μ 47 3 = nI (nT (nv 47 μ)) := D.1.1.2.2.2.1
  have x0 : gi ρ 67 3 = nI (nT (nv 47 μ)) := D.2.2.1.1.2.2.2.trans k0
  obtain ⟨t, ht⟩ : ∃ t, t = nT (nv 47 μ) := ⟨_, rfl⟩
  rw [← ht] at k0 x0
  by_cases c : t < 6
  · obtain ⟨μ1, ρ1, p1, a1, -, a1', F1, G1, R1, le1, -, -⟩ := cm_adv R
    have N1 := N.fr F1 G1
    have cc : (nI t < (6 : Int32)) = True := eq_true (nI_lt (b := 6) c (by decide))
    have c6 : ((6 : Int32) ≤ nI t) = False := eq_false (nI_ge (b := 6) c (by decide))
    have bg : f_X8_begin (3 : Int32) (6 : Int32) ρ = some (nI t, ρ1) := m_begT (j := 3) (cap := 6) (by decide) x0 c (by decide) a1' G1
    rcases cm_oldL R1 N1 with ⟨l, hl, x1, f1, y1⟩ | ⟨cd, x, hc, x1, y1⟩
    · have R1' : RD n p1 (si μ1 58 t (nI l)) ρ1 := R1.c (by omega)
      obtain ⟨μ2, ρ2, p2, a2, -, a2', F2, G2, R2, le2, -, -⟩ := cm_adv R1'
      have ro : f_X8_readOldName (0 : Int32) ρ1 = some (nI l, ρ2) := m_rol (j := 0) y1 a2'
      have R2' : RD n p2 μ2 (si ρ2 67 (64 + 9 * t) (nI l)) := R2.m (by omega)
      have cl2 : ∀ k, k ≠ 1 → k ≠ 58 → ∀ i, gi μ2 k i = gi μ k i := fun k h1 h2 i => (F2.1 k i (by omega)).trans ((gi_sik h2).trans (F1.1 k i (by omega)))
      have c58 : gi μ2 58 t = nI l := (F2.1 58 t (by omega)).trans gi_sii
      have c58n : ∀ i, i ≠ t → gi μ2 58 i = gi μ 58 i := fun i hi => (F2.1 58 i (by omega)).trans ((gi_sij hi).trans (F1.1 58 i (by omega)))
      have kc2 : KC μ μ2 := (F1.kc.xsi (k := 58) (i := t) (x := nI l) (by omega)).tr F2.kc
      have km2 : KM ρ (si ρ2 67 (64 + 9 * t) (nI l)) := (G1.km.tr G2.km).xsi (by omega)
      have g2 := R2.2.1
      have ft : f_X4_readTest μ = Option.bind (f_X4_readFour_59 (nI (8 * t)) μ2) (fun q8 => if ((b2i q8.1) = 0) then some (false, q8.2) else Option.bind (f_X4_readFour_59 (nI (8 * t + 4)) q8.2) (fun q10 => if ((b2i q10.1) = 0) then some (false, q10.2) else some (true, (si q10.2 47 3 ((gi q10.2 47 3) + (1 : Int32)))))) := by
        unfold f_X4_readTest
        simp only [k0, cc, if_true, a1, Option.bind_some, x1, b2t, if_false, f1]
        rw [gck c (by decide), nI_clamp (by omega), a2, Option.bind_some, n2, pk_mul, n4, pk_mul, nI_add, show t * 2 * 4 = 8 * t by omega]
      have fm : f_X8_parseTest ρ = Option.bind (gloop (fun s => b_X8_parseTest_50 (nI (64 + 9 * t)) s.1 s.2) gFuel ((0 : Int32), (si ρ2 67 (64 + 9 * t) (nI l)))) (fun q14 => Sum.elim (fun t15 => gchk (gIn (3 : Int32) 137) (gchk (gIn (3 : Int32) 137) (some (si t15 67 (3 : Int32).toNatClampNeg ((gi t15 67 (3 : Int32).toNatClampNeg) + (1 : Int32)))))) (fun x => some x) q14) := by
        unfold f_X8_parseTest
        simp only [bg, Option.bind_some, ro, c6, if_false]
        unfold j_X8_parseTest_29
        rw [if_pos g2, n64, n9, pk_mul, nI_add, gck (by omega) (by decide), nI_clamp (by omega)]
      rcases ts_4 (t := t) (h := 0) c (by decide) R2' with ⟨ν1, ρ3, p3, r1, m1, le3, R3, C3, M3, V3⟩ | ⟨ν1, ρ3, q, cd, hc, r1, m1, R3, C3, M3⟩
      · rcases ts_4 (t := t) (h := 1) c (by decide) R3 with ⟨ν2, ρ4, p4, r2, m2, le4, R4, C4', M4', V4⟩ | ⟨ν2, ρ4, q, cd, hc, r2, m2, R4, C4', M4'⟩
        · have k3 : gi ν2 47 3 = nI t := (C4'.1 47 3 (by omega) (by omega)).trans ((C3.1 47 3 (by omega) (by omega)).trans ((cl2 47 (by decide) (by decide) 3).trans k0))
          have x3 : gi ρ4 67 3 = nI t := (M4'.1 67 3 (by omega) (by omega)).trans ((M3.1 67 3 (by omega) (by omega)).trans ((gi_sij (by omega)).trans ((G2.1 67 3 (by omega)).trans ((G1.1 67 3 (by omega)).trans x0))))
          refine ⟨true, si ν2 47 3 (nI (t + 1)), si ρ4 67 3 (nI (t + 1)), ?_, ?_, ((kc2.tr (C3.kc (by omega))).tr (C4'.kc (by omega))).xsi (by omega), ((km2.tr (M3.km (by omega))).tr (M4'.km (by omega))).xsi (by omega), Or.inl ⟨rfl, ⟨p4, by omega, (R4.c (by omega)).m (by omega)⟩, ?_⟩⟩
          · rw [ft, show f_X4_readFour_59 (nI (8 * t)) μ2 = some (true, ν1) from r1, Option.bind_some, if_neg (show ¬ b2i true = 0 by decide)]
            show Option.bind (f_X4_readFour_59 (nI (8 * t + 4)) ν1) _ = _
            rw [show f_X4_readFour_59 (nI (8 * t + 4)) ν1 = some (true, ν2) from r2, Option.bind_some, if_neg (show ¬ b2i true = 0 by decide), k3, nI_1]
          · have lp : gloop (fun s => b_X8_parseTest_50 (nI (64 + 9 * t)) s.1 s.2) gFuel ((0 : Int32), (si ρ2 67 (64 + 9 * t) (nI l))) = some (Sum.inl ρ4) := by
              have h1 : gloop (fun s => b_X8_parseTest_50 (nI (64 + 9 * t)) s.1 s.2) gFuel ((0 : Int32), (si ρ2 67 (64 + 9 * t) (nI l))) = gloop (fun s => b_X8_parseTest_50 (nI (64 + 9 * t)) s.1 s.2) (gFuel - 4) (nI 4, ρ3) := m1
              have h2 : gloop (fun s => b_X8_parseTest_50 (nI (64 + 9 * t)) s.1 s.2) (gFuel - 4) (nI 4, ρ3) = gloop (fun s => b_X8_parseTest_50 (nI (64 + 9 * t)) s.1 s.2) (gFuel - 8) (nI 8, ρ4) := m2
              rw [h1, h2]
              exact gl_e (by unfold gFuel; omega) (if_pos (show (8 : Int32) ≤ nI 8 by decide))
            rw [fm, lp, Option.bind_some]
            show gchk (gIn (nI 3) 137) (gchk (gIn (nI 3) 137) (some (si ρ4 67 (nI 3).toNatClampNeg ((gi ρ4 67 (nI 3).toNatClampNeg) + (1 : Int32))))) = _
            rw [gck (by decide) (by decide), gck (by decide) (by decide), nI_clamp (by decide), x3, nI_1]
          · have hT : gi ρ4 62 = gi ρ 62 := funext fun q => (M4'.1 62 q (by omega) (by omega)).trans ((M3.1 62 q (by omega) (by omega)).trans ((gi_sik (by decide)).trans ((G2.1 62 q (by omega)).trans (G1.1 62 q (by omega)))))
            have cn : ∀ k i, k ≠ 1 → k ≠ 58 → (k ≠ 59 ∨ i < 8 * t) → gi ν2 k i = gi μ k i := fun k i h1 h2 h3 => (C4'.1 k i (by omega) (by omega)).trans ((C3.1 k i (by omega) (by omega)).trans (cl2 k h1 h2 i))
            have hx : ∀ q, (q < 64 + 9 * t ∨ 64 + 9 * t + 8 < q) → gi ρ4 67 q = gi ρ 67 q := fun q h => (M4'.1 67 q (by omega) (by omega)).trans ((M3.1 67 q (by omega) (by omega)).trans ((gi_sij (by omega)).trans ((G2.1 67 q (by omega)).trans (G1.1 67 q (by omega)))))
            have hv : ∀ i, i < 8 → gi ρ4 67 (64 + 9 * t + 1 + i) = gi ν2 59 (8 * t + i) ∧ gdN (i % 4) (gi ν2 59 (8 * t + i)) := fun i hi => by
              by_cases d : i < 4
              · have w := V3 i d
                rw [show 8 * t + 4 * 0 + i = 8 * t + i by omega, show 65 + 9 * t + 4 * 0 + i = 64 + 9 * t + 1 + i by omega] at w
                rw [show gi ν2 59 (8 * t + i) = gi ν1 59 (8 * t + i) from C4'.1 59 _ (by omega) (by omega), show gi ρ4 67 (64 + 9 * t + 1 + i) = gi ρ3 67 (64 + 9 * t + 1 + i) from M4'.1 67 _ (by omega) (by omega), show i % 4 = i by omega]
                exact ⟨w.1.symm, w.2⟩
              · have w := V4 (i - 4) (by omega)
                rw [show 8 * t + 4 * 1 + (i - 4) = 8 * t + i by omega, show 65 + 9 * t + 4 * 1 + (i - 4) = 64 + 9 * t + 1 + i by omega] at w
                rw [show i % 4 = i - 4 by omega]
                exact ⟨w.1.symm, w.2⟩
            obtain ⟨d1, d2, d3, d4, d5⟩ := D
            have hu : ∀ j i, ¬ (j = 0 ∧ i = 3) → ¬ (j = 11 ∧ i = t) → ¬ (j = 12 ∧ 8 * t ≤ i) → nv 47 (si ν2 47 3 (nI (t + 1))) j i = nv 47 μ j i := fun j i q0 q2 q3 => by
              by_cases e : j < 13
              · rw [nvd_at j i e, nvd_at j i e, gi_si, if_neg (by omega)]
                by_cases f : j = 11
                · subst f
                  exact (C4'.1 58 i (by omega) (by omega)).trans ((C3.1 58 i (by omega) (by omega)).trans (c58n i (by omega)))
                · exact cn (47 + j) i (by omega) (by omega) (by omega)
              · unfold nv; rw [if_neg e, if_neg e]
            obtain ⟨νf, eν⟩ : ∃ νf, νf = si ν2 47 3 (nI (t + 1)) := ⟨_, rfl⟩
            obtain ⟨ρf, eρ⟩ : ∃ ρf, ρf = si ρ4 67 3 (nI (t + 1)) := ⟨_, rfl⟩
            rw [← eν] at hu
            rw [← eν, ← eρ]
            have f0 : gi νf 47 3 = nI (t + 1) := by rw [eν, gi_sii]
            have f11 : gi νf 58 t = nI l := by
              rw [eν, gi_sik (by decide)]
              exact (C4'.1 58 t (by omega) (by omega)).trans ((C3.1 58 t (by omega) (by omega)).trans c58)
            have f12 : ∀ i, i < 8 → gdN (i % 4) (gi νf 59 (8 * t + i)) := fun i hi => by
              rw [eν, gi_sik (by decide)]; exact (hv i hi).2
            have r62 : ∀ q, gi ρf 62 q = gi ρ 62 q := fun q => by
              rw [eρ, gi_sik (by decide)]; exact congrFun hT q
            have r3 : gi ρf 67 3 = nI (t + 1) := by rw [eρ, gi_sii]
            have r64 : gi ρf 67 (64 + 9 * t) = nI l := by
              rw [eρ, gi_sij (by omega)]
              exact (M4'.1 67 _ (by omega) (by omega)).trans ((M3.1 67 _ (by omega) (by omega)).trans gi_sii)
            have r65 : ∀ i, i < 8 → gi ρf 67 (64 + 9 * t + 1 + i) = gi νf 59 (8 * t + i) := fun i hi => by
              rw [eρ, eν, gi_sij (by omega), gi_sik (by decide)]; exact (hv i hi).1
            have r67 : ∀ q, q ≠ 3 → (q < 64 + 9 * t ∨ 64 + 9 * t + 8 < q) → gi ρf 67 q = gi ρ 67 q := fun q h1 h2 => by
              rw [eρ, gi_sij h1]; exact hx q h2
            have e1 : gi ρf 60 19 = gi ρ 60 19 := by
              rw [eρ, gi_sik (by decide)]
              exact (M4'.1 60 19 (by omega) (by omega)).trans ((M3.1 60 19 (by omega) (by omega)).trans ((gi_sik (by decide)).trans ((G2.1 60 19 (by omega)).trans (G1.1 60 19 (by omega)))))
            have e2 : gi νf 1 9 = gi μ 1 9 := by
              rw [eν, gi_sik (by decide)]
              exact (C4'.1 1 9 (by omega) (by omega)).trans ((C3.1 1 9 (by omega) (by omega)).trans ((F2.1 1 9 (by omega)).trans ((gi_sik (by decide)).trans (F1.1 1 9 (by omega)))))
            subst ht
            obtain ⟨g1, g2, g3⟩ := GR_test (u := nv 47 νf) (d2 := ρf.1 62) (x2 := ρf.1 67) d1 d2 d3 c hl f0 f11 f12 hu r62 r3 r64 r65 r67
            refine ⟨g1, g2, g3, ?_, (r62 702).trans d5⟩
            rw [e1, e2]; exact d4
        · refine ⟨false, si ν2 1 8 cd, mE cd ρ4, ?_, ?_, ((kc2.tr (C3.kc (by omega))).tr (C4'.kc (by omega))).xsi (by omega), ((km2.tr (M3.km (by omega))).tr (M4'.km (by omega))).xE, Out.bad R4 hc⟩
          · rw [ft, show f_X4_readFour_59 (nI (8 * t)) μ2 = some (true, ν1) from r1, Option.bind_some, if_neg (show ¬ b2i true = 0 by decide)]
            show Option.bind (f_X4_readFour_59 (nI (8 * t + 4)) ν1) _ = _
            rw [show f_X4_readFour_59 (nI (8 * t + 4)) ν1 = some (false, si ν2 1 8 cd) from r2, Option.bind_some, if_pos (show b2i false = 0 from rfl)]
          · have lp : gloop (fun s => b_X8_parseTest_50 (nI (64 + 9 * t)) s.1 s.2) gFuel ((0 : Int32), (si ρ2 67 (64 + 9 * t) (nI l))) = some (Sum.inr (mE cd ρ4)) := by
              have h1 : gloop (fun s => b_X8_parseTest_50 (nI (64 + 9 * t)) s.1 s.2) gFuel ((0 : Int32), (si ρ2 67 (64 + 9 * t) (nI l))) = gloop (fun s => b_X8_parseTest_50 (nI (64 + 9 * t)) s.1 s.2) (gFuel - 4) (nI 4, ρ3) := m1
              rw [h1]; exact m2
            rw [fm, lp]; rfl
      · refine ⟨false, si ν1 1 8 cd, mE cd ρ3, ?_, ?_, (kc2.tr (C3.kc (by omega))).xsi (by omega), (km2.tr (M3.km (by omega))).xE, Out.bad R3 hc⟩
        · rw [ft, show f_X4_readFour_59 (nI (8 * t)) μ2 = some (false, si ν1 1 8 cd) from r1, Option.bind_some, if_pos (show b2i false = 0 from rfl)]
        · have lp : gloop (fun s => b_X8_parseTest_50 (nI (64 + 9 * t)) s.1 s.2) gFuel ((0 : Int32), (si ρ2 67 (64 + 9 * t) (nI l))) = some (Sum.inr (mE cd ρ3)) := m1
          rw [fm, lp]; rfl
    · have h17 := lt0 (ρ := ρ1) hc
      have ro : f_X8_readOldName (0 : Int32) ρ1 = some (x, mE cd ρ1) := m_rob (j := 0) hc y1
      refine ⟨false, _, _, ?_, ?_, (F1.kc.xsi (by omega)), G1.km.xE, Out.bad R1 hc⟩
      · unfold f_X4_readTest
        simp only [k0, cc, if_true, a1, Option.bind_some, x1, b2f]
      · unfold f_X8_parseTest
        simp only [bg, Option.bind_some, ro, c6, if_false]
        exact ts_E h17 _ _ _ _
  · have cc : (nI t < (6 : Int32)) = False := eq_false (nI_nlt (b := 6) (by omega) (by omega))
    have bg : f_X8_begin (3 : Int32) (6 : Int32) ρ = some (nI t, mE (-15) ρ) := m_begE (j := 3) (cap := 6) (by decide) x0 (by omega) (by omega) R.2.1
    have h17 := lt0 (ρ := ρ) (c := -15) (by decide)
    refine ⟨false, si μ 1 8 (-15), _, ?_, ?_, ((KC.rf _).xsi (by omega)), (KM.rf _).xE, Out.bad R (by decide)⟩
    · unfold f_X4_readTest
      simp only [k0, cc, if_false, f_X4_fail, Option.bind_some]
    · unfold f_X8_parseTest
      simp only [bg, Option.bind_some, m_roE h17]
      rw [ts_E h17, ts_E h17, ite_self]
end STT

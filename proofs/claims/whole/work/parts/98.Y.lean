/-! a line read -/
section SLI
variable {μ ρ ν : gM} {n p k : Nat} {v : Nat → Nat → Int32}
theorem NM.c {k i : Nat} {x : Int32} (N : NM v μ ρ) (h : k ≠ 47 ∧ k ≠ 49 ∧ k ≠ 51) : NM v (si μ k i x) ρ := by
  obtain ⟨⟨a1, a2, a3, a4, a5, a6⟩, b⟩ := N
  exact ⟨⟨(gi_sik (by omega)).trans a1, (gi_sik (by omega)).trans a2, a3, a4, fun j hj => (gi_sik (by omega)).trans (a5 j hj), fun j hj => (gi_sik (by omega)).trans (a6 j hj)⟩, b⟩
theorem ln_31 {ρ' : gM} {y : Int32} (hck : f_X8_check y (-14) ρ = some ρ') (h17 : gi ρ' 60 17 ≠ 0) (x1 x2 x3 : Int32) : j_X8_parseLine_31 x1 x2 x3 y ρ = some ρ' := by
  unfold j_X8_parseLine_31
  rw [hck, Option.bind_some, m_agE h17, Option.bind_some, m_roE h17, Option.bind_some]
  show Option.bind (gloop (fun t => b_X8_parseLine_50 x1 x2 x3 (-1) t.1 t.2) gFuel ((0 : Int32), ρ')) (fun q13 => j_X8_parseLine_83 x1 x2 x3 (-1) q13.1 q13.2) = some ρ'
  rw [gl_e (by unfold gFuel; omega) (lb_E h17 x1 x2 x3 (-1) 0), Option.bind_some]
  unfold j_X8_parseLine_83
  rw [if_neg h17]
def lnP (t29 : gM) : Option (Bool × gM) := if ((gi t29 1 5) = (2 : Int32)) then gchk (gIn (0 : Int32) 4) (gchk (gIn (0 : Int32) 4) (Option.bind (f_X4_isIntegerIn (sc 0 (0 : Int32).toNatClampNeg) (sc 1 (0 : Int32).toNatClampNeg) t29) (fun q33 => if ((b2i q33.1) = 0) then some (false, q33.2) else Option.bind (f_X4_fail (-15 : Int32) q33.2) (fun q35 => if ((b2i q35.1) = 0) then some (false, q35.2) else some (true, q35.2))))) else some (true, t29)
theorem lnP_no (h : gi ν 1 5 ≠ 2) : lnP ν = some (true, ν) := if_neg h
theorem lnP_2 (h : gi ν 1 5 = 2) {c : Int32} (a : (f_X4_isIntegerIn 0 40000 ν = some (true, ν) ∧ c = -15) ∨ f_X4_isIntegerIn 0 40000 ν = some (false, si ν 1 8 c)) : lnP ν = some (false, si ν 1 8 c) := by
  unfold lnP
  rw [if_pos h, gckb (by decide), gckb (by decide), show (0 : Int32).toNatClampNeg = 0 by decide, show sc 0 0 = 0 by decide +kernel, show sc 1 0 = 40000 by decide +kernel]
  rcases a with ⟨a, rfl⟩ | a
  · rw [a]; rfl
  · rw [a]; rfl
theorem st_line (R : RD n p μ ρ) (D : DR μ ρ) : Sim n p μ ρ f_X4_readLine f_X8_parseLine := by
  have N := D.nm
  have hb := D.1.b
  have gF : gFuel > 100 := by unfold gFuel; omega
  obtain ⟨k, hk⟩ : ∃ k, k = nN (nv 47 μ) := ⟨_, rfl⟩
  have k0 : gi μ 47 2 = nI k := by rw [hk]; exact D.1.1.2.2.1
  have x0 : gi ρ 67 2 = nI k := (D.2.2.1.1.2.2.1).trans k0
  by_cases c : k < 20
  · obtain ⟨μ1, ρ1, p1, a1, -, a1', F1, G1, R1, le1, -, -⟩ := cm_adv R
    have N1 := N.fr F1 G1
    have cc : (nI k < (20 : Int32)) = True := eq_true (nI_lt (b := 20) c (by decide))
    have bg : f_X8_begin (2 : Int32) (20 : Int32) ρ = some (nI k, ρ1) := m_begT (j := 2) (cap := 20) (by decide) x0 c (by decide) a1' G1
    rcases cm_oldP R1 N1 with ⟨a, ha, x1, f1, y1⟩ | ⟨cd, x, hc, x1, y1⟩
    · have R1' : RD n p1 (si μ1 53 k (nI a)) ρ1 := R1.c (by omega)
      obtain ⟨μ2, ρ2, p2, a2, -, a2', F2, G2, R2, le2, -, -⟩ := cm_adv R1'
      have ro1 : f_X8_readOldName (1 : Int32) ρ1 = some (nI a, ρ2) := m_rol (j := 1) y1 a2'
      have N2 : NM (nv 47 μ) μ2 ρ2 := (N1.c (by omega)).fr F2 G2
      have kc2 : KC μ μ2 := (F1.kc.xsi (k := 53) (i := k) (x := nI a) (by omega)).tr F2.kc
      have km2 : KM ρ ρ2 := G1.km.tr G2.km
      rcases cm_oldP R2 N2 with ⟨b, hbb, x2, f2, y2⟩ | ⟨cd, x, hc, x2, y2⟩
      · have R2' : RD n p2 (si μ2 54 k (nI b)) ρ2 := R2.c (by omega)
        have e53 : gi (si μ2 54 k (nI b)) 53 k = nI a := (gi_sik (by decide)).trans ((F2.1 53 k (by omega)).trans gi_sii)
        have e54 : gi (si μ2 54 k (nI b)) 54 k = nI b := gi_sii
        have kc2' : KC μ (si μ2 54 k (nI b)) := kc2.xsi (by omega)
        by_cases ab : b = a
        · have nab : (nI b = nI a) = True := eq_true (by rw [ab])
          have h17 := lt0 (ρ := ρ2) (c := -14) (by decide)
          refine ⟨false, si (si μ2 54 k (nI b)) 1 8 (-14), mE (-14) ρ2, ?_, ?_, kc2'.xsi (by omega), km2.xE, Out.bad R2' (by decide)⟩
          · unfold f_X4_readLine
            simp (config := { maxSteps := 3000000 }) (disch := omega) only [k0, cc, if_true, a1, Option.bind_some, x1, b2t, if_false, f1, gck, nI_clamp, a2, x2, f2, e54, e53, nab]
            rfl
          · unfold f_X8_parseLine
            simp only [bg, Option.bind_some, ro1, y2, nab, if_true]
            exact ln_31 (m_ck0 R2.2.1) h17 _ _ _
        · have nab : (nI b = nI a) = False := eq_false (fun w => ab ((nI_eq (by omega) (by omega)).mp w))
          obtain ⟨μ3, ρ3, p3, a3, -, a3', F3, G3, R3, le3, -, -⟩ := cm_adv R2'
          have N3 : NM (nv 47 μ) μ3 ρ3 := (N2.c (by omega)).fr F3 G3
          have kc3 : KC μ μ3 := kc2'.tr F3.kc
          have km3 : KM ρ ρ3 := km2.tr G3.km
          rcases cm_oldL R3 N3 with ⟨l, hl, x3, f3, y3⟩ | ⟨cd, x, hc, x3, y3⟩
          · have R3' : RD n p3 (si μ3 55 k (nI l)) ρ3 := R3.c (by omega)
            obtain ⟨μ4, ρ4, p4, a4, -, a4', F4, G4, R4, le4, -, -⟩ := cm_adv R3'
            have ro3 : f_X8_readOldName (0 : Int32) ρ3 = some (nI l, ρ4) := m_rol (j := 0) y3 a4'
            have cl4 : ∀ K i, K ≠ 1 → (K ≠ 53 ∨ i ≠ k) → (K ≠ 54 ∨ i ≠ k) → (K ≠ 55 ∨ i ≠ k) → gi μ4 K i = gi μ K i := fun K i h1 h3 h4 h5 => by
              rw [show gi μ4 K i = gi (si μ3 55 k (nI l)) K i from F4.1 K i (by omega), gi_si, if_neg (by omega), show gi μ3 K i = gi (si μ2 54 k (nI b)) K i from F3.1 K i (by omega), gi_si, if_neg (by omega), show gi μ2 K i = gi (si μ1 53 k (nI a)) K i from F2.1 K i (by omega), gi_si, if_neg (by omega)]
              exact F1.1 K i (by omega)
            have c53 : gi μ4 53 k = nI a := (F4.1 53 k (by omega)).trans ((gi_sik (by decide)).trans ((F3.1 53 k (by omega)).trans e53))
            have c54 : gi μ4 54 k = nI b := (F4.1 54 k (by omega)).trans ((gi_sik (by decide)).trans ((F3.1 54 k (by omega)).trans e54))
            have c55 : gi μ4 55 k = nI l := (F4.1 55 k (by omega)).trans gi_sii
            have m42 : gi μ4 47 2 = nI k := (cl4 47 2 (by omega) (by omega) (by omega) (by omega)).trans k0
            have m44 : gi μ4 47 4 = nI (nA (nv 47 μ)) := (cl4 47 4 (by omega) (by omega) (by omega) (by omega)).trans D.1.ac.1
            obtain ⟨μ5, e5⟩ : ∃ μ5, μ5 = si (si μ4 47 2 (nI (k + 1))) 47 4 (nI (nA (nv 47 μ) ||| 2 ^ k)) := ⟨_, rfl⟩
            have R5 : RD n p4 μ5 ρ4 := by rw [e5]; exact (R4.c (by omega)).c (by omega)
            have kc5 : KC μ μ5 := by rw [e5]; exact (((kc3.xsi (k := 55) (i := k) (x := nI l) (by omega)).tr F4.kc).xsi (by omega)).xsi (by omega)
            have km4 : KM ρ ρ4 := km3.tr G4.km
            have ft : f_X4_readLine μ = Option.bind (gloop (fun t => b_X4_readLine_152 (nI k) t.1 t.2) gFuel ((0 : Int32), μ5)) (fun q28 => Sum.elim (fun t29 => lnP t29) (fun x => some x) q28) := by
              unfold f_X4_readLine
              simp (disch := omega) only [k0, cc, if_true, a1, Option.bind_some, x1, b2t, if_false, f1, gck, nI_clamp, a2, x2, f2, e54, e53, nab, a3, x3, f3, a4, m42, nI_1, gi_sij, m44, oneShl, nx_or, ← e5]
              rfl
            have fm : f_X8_parseLine ρ = Option.bind (gloop (fun t => b_X8_parseLine_50 (nI k) (nI a) (nI b) (nI l) t.1 t.2) gFuel ((0 : Int32), ρ4)) (fun q13 => j_X8_parseLine_83 (nI k) (nI a) (nI b) (nI l) q13.1 q13.2) := by
              unfold f_X8_parseLine
              simp only [bg, Option.bind_some, ro1, y2, nab, if_false]
              unfold j_X8_parseLine_31
              rw [m_ck1, Option.bind_some, a3', Option.bind_some, ro3, Option.bind_some]
            obtain ⟨r, lp, Z⟩ := ln_loop c (a := nI a) (b := nI b) (l := nI l) R5
            have mo : ∀ {x : Int32} {ρ' : gM}, gloop (fun t => b_X8_parseLine_50 (nI k) (nI a) (nI b) (nI l) t.1 t.2) gFuel ((0 : Int32), ρ4) = some (x, ρ') → gi ρ' 60 17 ≠ 0 → f_X8_parseLine ρ = some ρ' := fun h h17 => by
              rw [fm, h, Option.bind_some]
              unfold j_X8_parseLine_83
              rw [if_neg h17]
            rcases Z with ⟨ν, s, s1, s8, ⟨ρs, q, e, le, Rs, Fs, Gs, B, V⟩, hr⟩ | ⟨ν, ρ', q, cd, x, hc, rfl, ml, R6, F6, G6⟩
            · have kcs := kc5.tr Fs.kc
              have kms := km4.tr (Gs.km (Or.inl rfl))
              by_cases k2 : gi ν 1 5 = 2
              · have hr8 : r = Sum.inl ν ∧ s = 8 := hr.resolve_right (fun w => w.2 k2)
                obtain ⟨rfl, rfl⟩ := hr8
                obtain ⟨cd, hc, pe, ci⟩ := ps_8 Rs k2 (nI k)
                refine ⟨false, si ν 1 8 cd, mE cd ρs, ?_, ?_, kcs.xsi (by omega), kms.xE, Out.bad Rs hc⟩
                · rw [ft, lp, Option.bind_some]
                  exact lnP_2 k2 ci
                · refine mo (x := nI 9) ?_ (lt0 hc)
                  have mb := lb_go (ρ := ρs) (s := 8) (Or.inr (Rs.kd.trans k2)) Rs.2.1 (by omega) (nI k) (nI a) (nI b) (nI l)
                  rw [pe, Option.bind_some] at mb
                  rw [e, gl_s (by omega) mb]
                  exact gl_e (by omega) (lb_E (lt0 hc) _ _ _ _ _)
              · have fc : f_X4_readLine μ = some (true, ν) := by
                  rw [ft, lp, Option.bind_some]
                  rcases hr with ⟨rfl, -⟩ | ⟨rfl, -⟩
                  · exact lnP_no k2
                  · rfl
                by_cases k3 : gi ν 1 5 = 3
                · have mb : b_X8_parseLine_50 (nI k) (nI a) (nI b) (nI l) (nI s) ρs = some (Sum.inr (nI s, ρs)) := by
                    unfold b_X8_parseLine_50
                    rw [if_pos Rs.2.1, if_neg (show ¬ nI s = 0 from nI_ne0 (by omega) (by omega)), if_pos (Rs.kd.trans k3)]
                  have ml : gloop (fun t => b_X8_parseLine_50 (nI k) (nI a) (nI b) (nI l) t.1 t.2) gFuel ((0 : Int32), ρ4) = some (nI s, ρs) := by
                    rw [e]; exact gl_e (by omega) mb
                  have m67 : ∀ i, gi ρs 67 i = gi ρ 67 i := fun i => (Gs.1 67 i (by omega) (by omega)).trans ((G4.1 67 i (by omega)).trans ((G3.1 67 i (by omega)).trans ((G2.1 67 i (by omega)).trans (G1.1 67 i (by omega)))))
                  have m62 : ∀ i, i < 62 + 32 * k ∨ 62 + 32 * k + 32 ≤ i → gi ρs 62 i = gi ρ 62 i := fun i hi => (Gs.1 62 i (by omega) (by omega)).trans ((G4.1 62 i (by omega)).trans ((G3.1 62 i (by omega)).trans ((G2.1 62 i (by omega)).trans (G1.1 62 i (by omega)))))
                  have xs : gi ρs 67 2 = nI k := (m67 2).trans x0
                  obtain ⟨ρf, ef⟩ : ∃ ρf, ρf = si (si (si (si (si (si ρs 67 (4 + k) (nI a)) 67 (24 + k) (nI b)) 67 (44 + k) (nI l)) 62 (22 + k) 1) 62 (42 + k) (nI s)) 67 2 (nI (k + 1)) := ⟨_, rfl⟩
                  have fmf : f_X8_parseLine ρ = some ρf := by
                    rw [fm, ml, Option.bind_some]
                    unfold j_X8_parseLine_83
                    rw [if_pos Rs.2.1, ef]
                    simp (disch := omega) only [n4, n24, n44, n22, n42, n2, nI_add, gck, nI_clamp, gi_sik, gi_sij, xs, nI_1]
                  have u5 : ∀ K i, K ≠ 1 → (K ≠ 47 ∨ (i ≠ 2 ∧ i ≠ 4)) → gi μ5 K i = gi μ4 K i := fun K i h1 h2 => by
                    rw [e5, gi_si, if_neg (by omega), gi_si, if_neg (by omega)]
                  have uv : ∀ K i, K ≠ 1 → (K ≠ 57 ∨ i < 32 * k ∨ 32 * k + 32 ≤ i) → (K ≠ 56 ∨ i ≠ k) → gi ν K i = gi μ5 K i := fun K i h1 h2 h3 => Fs.1 K i (by omega) h2 h3
                  have hu : ∀ j i, ¬ (j = 0 ∧ (i = 2 ∨ i = 4)) → ¬ (6 ≤ j ∧ j ≤ 9 ∧ i = k) → ¬ (j = 10 ∧ 32 * k ≤ i) → nv 47 ν j i = nv 47 μ j i := fun j i q0 q2 q3 => by
                    by_cases z : j < 13
                    · rw [nvd_at j i z, nvd_at j i z, uv _ _ (by omega) (by omega) (by omega), u5 _ _ (by omega) (by omega)]
                      exact cl4 _ _ (by omega) (by omega) (by omega) (by omega)
                    · unfold nv; rw [if_neg z, if_neg z]
                  have x67 : ∀ i, i ≠ 2 → i ≠ 4 + k → i ≠ 24 + k → i ≠ 44 + k → gi ρf 67 i = gi ρ 67 i := fun i h2 h4 h24 h44 => by
                    rw [ef, gi_sij h2, gi_sik (by decide), gi_sik (by decide), gi_sij h44, gi_sij h24, gi_sij h4]; exact m67 i
                  have d62 : ∀ i, i ≠ 22 + k → i ≠ 42 + k → gi ρf 62 i = gi ρs 62 i := fun i h2 h4 => by
                    rw [ef, gi_sik (by decide), gi_sij h4, gi_sij h2, gi_sik (by decide), gi_sik (by decide), gi_sik (by decide)]
                  refine ⟨true, ν, ρf, fc, fmf, kcs, ?_, Or.inl ⟨rfl, ⟨q, by omega, ?_⟩, ?_⟩⟩
                  · rw [ef]; exact (((((kms.xsi (by omega)).xsi (by omega)).xsi (by omega)).xsi (by omega)).xsi (by omega)).xsi (by omega)
                  · rw [ef]; exact (((((Rs.m (by omega)).m (by omega)).m (by omega)).m (by omega)).m (by omega)).m (by omega)
                  · obtain ⟨d1, d2, d3, d4, d5⟩ := D
                    have nab' : a ≠ b := fun w => ab w.symm
                    have q47 : gi ν 47 2 = nI (k + 1) := (uv 47 2 (by omega) (by omega) (by omega)).trans (by rw [e5, gi_sij (by decide), gi_sii])
                    have q474 : gi ν 47 4 = nI (nA (nv 47 μ) ||| 2 ^ k) := (uv 47 4 (by omega) (by omega) (by omega)).trans (by rw [e5, gi_sii])
                    have q53 : gi ν 53 k = nI a := (uv 53 k (by omega) (by omega) (by omega)).trans ((u5 53 k (by omega) (by omega)).trans c53)
                    have q54 : gi ν 54 k = nI b := (uv 54 k (by omega) (by omega) (by omega)).trans ((u5 54 k (by omega) (by omega)).trans c54)
                    have q55 : gi ν 55 k = nI l := (uv 55 k (by omega) (by omega) (by omega)).trans ((u5 55 k (by omega) (by omega)).trans c55)
                    have q56 : gi ν 56 k = nI s := B s1
                    have z22 : gi ρf 62 (22 + k) = 1 := by rw [ef, gi_sik (by decide), gi_sij (by omega), gi_sii]
                    have z42 : gi ρf 62 (42 + k) = nI s := by rw [ef, gi_sik (by decide), gi_sii]
                    have z2 : gi ρf 67 2 = nI (k + 1) := by rw [ef, gi_sii]
                    have z4 : gi ρf 67 (4 + k) = nI a := by rw [ef, gi_sij (by omega), gi_sik (by decide), gi_sik (by decide), gi_sij (by omega), gi_sij (by omega), gi_sii]
                    have z24 : gi ρf 67 (24 + k) = nI b := by rw [ef, gi_sij (by omega), gi_sik (by decide), gi_sik (by decide), gi_sij (by omega), gi_sii]
                    have z44 : gi ρf 67 (44 + k) = nI l := by rw [ef, gi_sij (by omega), gi_sik (by decide), gi_sik (by decide), gi_sii]
                    subst hk
                    obtain ⟨g1, g2, g3⟩ := GR_line (u := nv 47 ν) (d2 := ρf.1 62) (x2 := ρf.1 67) d1 d2 d3 c ha hbb nab' hl ⟨s1, s8⟩ q47 q474 q53 q54 q55 q56 (fun j hj w hw => (V j hj w hw).2) hu z22 z42
                      (fun j hj w hw => (d62 _ (by omega) (by omega)).trans (V j hj w hw).1.symm) (fun i h1 h2 h3 => (d62 i h1 h2).trans (m62 i (by omega))) z2 z4 z24 z44 x67
                    refine ⟨g1, g2, g3, ?_, (d62 702 (by omega) (by omega)).trans ((m62 702 (by omega)).trans d5)⟩
                    have e1 : gi ρf 60 19 = gi ρ 60 19 := by
                      rw [ef, gi_sik (by decide), gi_sik (by decide), gi_sik (by decide), gi_sik (by decide), gi_sik (by decide), gi_sik (by decide)]
                      exact (Gs.1 60 19 (by omega) (by omega)).trans ((G4.1 60 19 (by omega)).trans ((G3.1 60 19 (by omega)).trans ((G2.1 60 19 (by omega)).trans (G1.1 60 19 (by omega)))))
                    have e2 : gi ν 1 9 = gi μ 1 9 := by
                      rw [show gi ν 1 9 = gi μ5 1 9 from Fs.1 1 9 (by omega) (by omega) (by omega), e5, gi_sik (by decide), gi_sik (by decide), show gi μ4 1 9 = gi (si μ3 55 (nN (nv 47 μ)) (nI l)) 1 9 from F4.1 1 9 (by omega), gi_sik (by decide), show gi μ3 1 9 = gi (si μ2 54 (nN (nv 47 μ)) (nI b)) 1 9 from F3.1 1 9 (by omega), gi_sik (by decide), show gi μ2 1 9 = gi (si μ1 53 (nN (nv 47 μ)) (nI a)) 1 9 from F2.1 1 9 (by omega), gi_sik (by decide)]
                      exact F1.1 1 9 (by omega)
                    rw [e1, e2]; exact d4
                · refine ⟨true, ν, mE (-11) ρs, fc, ?_, kcs, kms.xE, Or.inr (Or.inl ⟨rfl, k3, Er_E Rs⟩)⟩
                  have h17 := lt0 (ρ := ρs) (c := -11) (by decide)
                  refine mo (x := nI (s + 1)) ?_ h17
                  have mb := lb_no (ρ := ρs) (s := s) ⟨s1, by omega⟩ (by rw [Rs.kd]; exact k3) Rs.2.1 (nI k) (nI a) (nI b) (nI l)
                  rw [ps_no Rs k2, Option.bind_some] at mb
                  rw [e, gl_s (by omega) mb]
                  exact gl_e (by omega) (lb_E h17 _ _ _ _ _)
            · refine ⟨false, si ν 1 8 cd, mE cd ρ', ?_, mo ml (lt0 hc), (kc5.tr F6.kc).xsi (by omega), (km4.tr (G6.km (Or.inl rfl))).xE, Out.bad R6 hc⟩
              rw [ft, lp, Option.bind_some]; rfl
          · have h17 := lt0 (ρ := ρ3) hc
            have ro3 : f_X8_readOldName (0 : Int32) ρ3 = some (x, mE cd ρ3) := m_rob (j := 0) hc y3
            refine ⟨false, si μ3 1 8 cd, mE cd ρ3, ?_, ?_, kc3.xsi (by omega), km3.xE, Out.bad R3 hc⟩
            · unfold f_X4_readLine
              simp (disch := omega) only [k0, cc, if_true, a1, Option.bind_some, x1, b2t, b2f, if_false, f1, gck, nI_clamp, a2, x2, f2, e54, e53, nab, a3, x3]
            · unfold f_X8_parseLine
              simp only [bg, Option.bind_some, ro1, y2, nab, if_false]
              unfold j_X8_parseLine_31
              rw [m_ck1, Option.bind_some, a3', Option.bind_some, ro3, Option.bind_some]
              show Option.bind (gloop (fun t => b_X8_parseLine_50 (nI k) (nI a) (nI b) x t.1 t.2) gFuel ((0 : Int32), mE cd ρ3)) (fun q13 => j_X8_parseLine_83 (nI k) (nI a) (nI b) x q13.1 q13.2) = _
              rw [gl_e (by omega) (lb_E h17 _ _ _ _ 0), Option.bind_some]
              unfold j_X8_parseLine_83
              rw [if_neg h17]
      · have h17 := lt0 (ρ := ρ2) hc
        refine ⟨false, si μ2 1 8 cd, mE cd ρ2, ?_, ?_, kc2.xsi (by omega), km2.xE, Out.bad R2 hc⟩
        · unfold f_X4_readLine
          simp (disch := omega) only [k0, cc, if_true, a1, Option.bind_some, x1, b2t, b2f, if_false, f1, gck, nI_clamp, a2, x2]
        · unfold f_X8_parseLine
          simp only [bg, Option.bind_some, ro1, y2]
          rw [ln_31 (m_ckE h17 0) h17, ln_31 (m_ckE h17 1) h17, ite_self]
    · have h17 := lt0 (ρ := ρ1) hc
      have ro1 : f_X8_readOldName (1 : Int32) ρ1 = some (x, mE cd ρ1) := m_rob (j := 1) hc y1
      refine ⟨false, si μ1 1 8 cd, mE cd ρ1, ?_, ?_, F1.kc.xsi (by omega), G1.km.xE, Out.bad R1 hc⟩
      · unfold f_X4_readLine
        simp only [k0, cc, if_true, a1, Option.bind_some, x1, b2f]
      · unfold f_X8_parseLine
        simp only [bg, Option.bind_some, ro1, m_ohE h17]
        rw [ln_31 (m_ckE h17 0) h17, ln_31 (m_ckE h17 1) h17, ite_self]
  · have cc : (nI k < (20 : Int32)) = False := eq_false (nI_nlt (b := 20) (by omega) (by omega))
    have bg : f_X8_begin (2 : Int32) (20 : Int32) ρ = some (nI k, mE (-15) ρ) := m_begE (j := 2) (cap := 20) (by decide) x0 (by omega) (by omega) R.2.1
    have h17 := lt0 (ρ := ρ) (c := -15) (by decide)
    refine ⟨false, si μ 1 8 (-15), _, ?_, ?_, ((KC.rf _).xsi (by omega)), (KM.rf _).xE, Out.bad R (by decide)⟩
    · unfold f_X4_readLine
      simp only [k0, cc, if_false, f_X4_fail, Option.bind_some]
    · unfold f_X8_parseLine
      simp only [bg, Option.bind_some, m_roE h17, m_ohE h17]
      rw [ln_31 (m_ckE h17 0) h17, ln_31 (m_ckE h17 1) h17, ite_self]
end SLI

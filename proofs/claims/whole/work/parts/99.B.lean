/-! load: the two sides alike -/
section LS
variable {μ ρ ν : gM}
theorem nv_msw (μ : gM) : nv 34 (msw μ) = nv 47 μ := by
  funext j i
  show (if j < 13 then μ.1 (sw (34 + j)) i else 0) = if j < 13 then μ.1 (47 + j) i else 0
  by_cases c : j < 13
  · rw [if_pos c, if_pos c, show sw (34 + j) = 47 + j by unfold sw; (repeat' split) <;> omega]
  · rw [if_neg c, if_neg c]
theorem DM_lt {v : Nat → Nat → Int32} {d d2 : Nat → Int32} (C : CI v) (D : DM v d) (e : ∀ q, q < 702 → d2 q = d q) : DM v d2 := by
  have hb := C.b
  obtain ⟨g1, g2, g3, g4, g5, g6, g7⟩ := D
  refine ⟨fun i hi => (e _ (by omega)).trans (g1 i hi), fun l hl => (e _ (by omega)).trans (g2 l hl), fun p hp => (e _ (by omega)).trans (g3 p hp), fun p hp hp2 => (e _ (by omega)).trans (g4 p hp hp2), fun k hk => (e _ (by omega)).trans (g5 k hk), fun k hk => (e _ (by omega)).trans (g6 k hk), fun k hk s hs w hw => (e _ ?_).trans (g7 k hk s hs w hw)⟩
  have := (C.line hk).cnt
  omega
theorem FM_lt {v : Nat → Nat → Int32} {x x2 : Nat → Int32} (C : CI v) (F : FM v x) (e : ∀ q, q < 137 → x2 q = x q) : FM v x2 := by
  have hb := C.b
  obtain ⟨f1, f2, f3, f4, f5⟩ := F
  refine ⟨⟨(e _ (by omega)).trans f1.1, (e _ (by omega)).trans f1.2.1, (e _ (by omega)).trans f1.2.2.1, (e _ (by omega)).trans f1.2.2.2⟩, fun k hk => ?_, fun t ht => ?_, fun l hl => (e _ (by omega)).trans (f4 l hl), fun p hp => (e _ (by omega)).trans (f5 p hp)⟩
  · have q := f2 k hk
    exact ⟨(e _ (by omega)).trans q.1, (e _ (by omega)).trans q.2.1, (e _ (by omega)).trans q.2.2⟩
  · have q := f3 t ht
    exact ⟨(e _ (by omega)).trans q.1, fun i hi => (e _ (by omega)).trans (q.2 i hi)⟩
theorem sim_1 (μ : gM) (s1 : Int32) (R : Rel μ) : simOK μ (f_case_1 s1 μ) := by
  have R' := R
  unfold Rel RelF at R'
  obtain ⟨C, D, F, H, hec, ⟨m, hm, hbc, hbm, ht⟩, ⟨hn, ho, h8, h8o, hhc, hhm, hho, hRH⟩⟩ := R'
  have hbc : gi μ 1 1 = nI m := hbc
  have hbm : gi μ 60 10 = nI m := hbm
  have no : f_X7_load s1 μ = some (-2, μ) → f_X8_inRange s1 (0 : Int32) (gi μ 60 10) (si μ 60 6 (0 : Int32)) = some false → simOK μ (f_case_1 s1 μ) := fun h1 h2 => by
    refine ⟨si μ 60 6 0, ?_, Rel.fr (Fr.si rfl (Fr.rf μ)) R⟩
    unfold f_case_1
    rw [h1, Option.bind_some, m_load_no h2, Option.bind_some, if_pos rfl]
  by_cases c0 : s1 < 0
  · refine no ?_ ?_
    · unfold f_X7_load
      rw [if_pos c0]
    · unfold f_X8_inRange
      rw [if_pos c0]
  · obtain ⟨j, hj, rfl⟩ := nI_of c0
    by_cases c1 : j ≤ m
    · have jn : j ≤ 1200 := by omega
      have ir : ∀ ρ : gM, f_X8_inRange (nI j) (0 : Int32) (nI m) ρ = some true := fun ρ => by
        unfold f_X8_inRange
        rw [if_neg c0, if_neg (nI_nlt c1 (by omega))]
      obtain ⟨c, ν, ρa, h1, hma, K1, Ka, o1⟩ := ld (μ := μ) (ρ := μ) jn (fun i hi => ⟨(ht i (by omega)).1.symm, (ht i (by omega)).2⟩)
      have nu : ∀ k i, (k < 47 ∨ 60 ≤ k) → (k ≠ 1 ∨ i < 2 ∨ 9 < i) → gi ν k i = gi μ k i := K1.1
      have nu2 : ν.2 = μ.2 := K1.2
      have cl : f_X7_load (nI j) μ = if 0 ≤ c then some (c, (si (si (msw (si (si ν 1 1 (0 : Int32)) 0 7 (-1 : Int32))) 20 2 (0 : Int32)) 28 0 (0 : Int32))) else some (c, (si (si ν 1 1 (0 : Int32)) 0 7 (gi (si ν 1 1 (0 : Int32)) 1 3))) := by
        unfold f_X7_load
        rw [if_neg c0, hbc, if_pos (nI_le c1 (by omega)), h1, Option.bind_some]
      have second : ∀ μ1 : gM, (∀ i, gi μ1 68 i = gi μ 68 i) → gi μ1 60 10 = nI m → ∃ ρf, f_X8_load (nI j) μ1 = j_X8_load_137 ρf ∧ KO (si μ1 60 6 (0 : Int32)) ρf ∧ ((∃ x, x < 2 ^ 31 ∧ c = nI x ∧ gi ρf 60 17 = 0 ∧ gi ρf 60 18 = -1 ∧ gi ρf 60 20 = c ∧ DR ν ρf) ∨ (c < 0 ∧ gi ρf 60 17 = c ∧ gi ρf 60 18 = gi ν 1 3)) := fun μ1 e1 e2 => by
        obtain ⟨c', ν', ρf, h1', hm', -, K2, o2⟩ := ld (μ := μ) (ρ := si μ1 60 6 (0 : Int32)) jn (fun i hi => ⟨((gi_sik (by decide)).trans (e1 i)).trans (ht i (by omega)).1.symm, (ht i (by omega)).2⟩)
        have q := Prod.mk.inj (Option.some.inj (h1.symm.trans h1'))
        obtain ⟨q1, q2⟩ := q
        subst q1
        subst q2
        exact ⟨ρf, m_load (by rw [e2]; exact ir _) hm', K2, o2⟩
      rcases o1 with ⟨x, hx, cx, -⟩ | ⟨hc, -⟩
      · -- good
        have c2 : 0 ≤ c := by rw [cx]; exact nI_pos' hx
        rw [if_pos c2] at cl
        obtain ⟨X, eX⟩ : ∃ X, X = si (si ν 1 1 (0 : Int32)) 0 7 (-1 : Int32) := ⟨_, rfl⟩
        obtain ⟨μ1, eμ⟩ : ∃ μ1, μ1 = si (si (msw X) 20 2 (0 : Int32)) 28 0 (0 : Int32) := ⟨_, rfl⟩
        rw [← eX, ← eμ] at cl
        have hX : ∀ k i, k ≠ 1 → k ≠ 0 → gi X k i = gi ν k i := fun k i a b => by rw [eX, gi_sik b, gi_sik a]
        have hμ : ∀ k i, k ≠ 20 → k ≠ 28 → (k < 34 ∨ 60 ≤ k) → gi μ1 k i = gi X k i := fun k i a b d => by
          rw [eμ, gi_sik b, gi_sik a]
          show X.1 (sw k) i = X.1 k i
          rw [sw_fix d]
        have m60 : ∀ k i, 60 ≤ k → gi μ1 k i = gi μ k i := fun k i a => (hμ k i (by omega) (by omega) (by omega)).trans ((hX k i (by omega) (by omega)).trans (nu k i (by omega) (by omega)))
        obtain ⟨ρf, l1, K2, o2⟩ := second μ1 (fun i => m60 68 i (by omega)) ((m60 60 10 (by omega)).trans hbm)
        have KI : ∀ k i, k ≠ 62 → k ≠ 67 → (k ≠ 60 ∨ i < 11 ∨ 20 < i) → gi ρf k i = gi (si μ1 60 6 (0 : Int32)) k i := K2.1
        rcases o2 with ⟨-, -, -, g17, g18, g20, DRf⟩ | ⟨hc, -⟩
        · obtain ⟨q19, p1, P1, P2, P3⟩ := m_cp61 (si ρf 60 10 (0 : Int32))
          obtain ⟨q23, p2, Q1, Q2, Q3⟩ := m_cp66 q19
          have P1 : ∀ k i, k ≠ 61 → gi q19 k i = gi (si ρf 60 10 (0 : Int32)) k i := P1
          have Q1 : ∀ k i, k ≠ 66 → gi q23 k i = gi q19 k i := Q1
          obtain ⟨Q, eQ⟩ : ∃ Q, Q = si q23 60 5 (0 : Int32) := ⟨_, rfl⟩
          have b60 : ∀ i, i ≠ 5 → i ≠ 10 → gi Q 60 i = gi ρf 60 i := fun i a b => by
            rw [eQ, gi_sij a, Q1 60 i (by decide), P1 60 i (by decide), gi_sij b]
          have bk : ∀ k i, k ≠ 60 → k ≠ 61 → k ≠ 66 → gi Q k i = gi ρf k i := fun k i a b d => by
            rw [eQ, gi_sik a, Q1 k i d, P1 k i b, gi_sik a]
          have bm : ∀ k i, k < 60 → gi Q k i = gi μ1 k i := fun k i a => by
            rw [bk k i (by omega) (by omega) (by omega), KI k i (by omega) (by omega) (by omega), gi_sik (by omega)]
          have lm : f_X8_load (nI j) μ1 = some (c, Q) := by
            rw [l1]
            unfold j_X8_load_137
            rw [show gi (si ρf 60 10 (0 : Int32)) 60 17 = 0 from (gi_sij (by decide)).trans g17, if_pos rfl, p1, Option.bind_some, p2, Option.bind_some, ← eQ, b60 20 (by decide) (by decide), g20]
          refine ⟨Q, ?_, ?_⟩
          · unfold f_case_1
            rw [cl, Option.bind_some, lm, Option.bind_some, if_pos rfl]
          · have env : nv 34 Q = nv 47 ν := by
              have e1 : nv 34 Q = nv 34 (msw X) := nv_cg (fun k i a b => (bm k i (by omega)).trans (by rw [eμ]; exact (gi_sik (by omega)).trans (gi_sik (by omega))))
              rw [e1, nv_msw, eX]
              exact nvd_cg (fun k i a b => (gi_sik (by omega)).trans (gi_sik (by omega)))
            obtain ⟨d1, d2, d3, d4, d5⟩ := DRf
            have e61 : ∀ q, q < 703 → gi Q 61 q = gi ρf 62 q := fun q hq => by
              rw [eQ, gi_sik (by decide), Q1 61 q (by decide), show gi q19 61 q = _ from P3 q hq, gi_sik (by decide)]
            have e66 : ∀ q, q < 137 → gi Q 66 q = gi ρf 67 q := fun q hq => by
              rw [eQ, gi_sik (by decide), show gi q23 66 q = _ from Q3 q hq, P1 67 q (by decide), gi_sik (by decide)]
            have e202 : gi Q 20 2 = 0 := (bm 20 2 (by omega)).trans (by rw [eμ, gi_sik (by decide), gi_sii])
            have e07 : gi Q 0 7 = -1 := (bm 0 7 (by omega)).trans ((hμ 0 7 (by decide) (by decide) (by decide)).trans (by rw [eX, gi_sii]))
            have e11 : gi Q 1 1 = 0 := (bm 1 1 (by omega)).trans ((hμ 1 1 (by decide) (by decide) (by decide)).trans (by rw [eX, gi_sik (by decide), gi_sii]))
            have e610 : gi Q 60 10 = 0 := by rw [eQ, gi_sij (by decide), Q1 60 10 (by decide), P1 60 10 (by decide), gi_sii]
            have e65 : gi Q 60 5 = 0 := by rw [eQ, gi_sii]
            have e280 : gi Q 28 0 = 0 := (bm 28 0 (by omega)).trans (by rw [eμ, gi_sii])
            have e281 : gi Q 28 1 = nI ho := (bm 28 1 (by omega)).trans (((by rw [eμ, gi_sij (by decide), gi_sik (by decide)]; rfl : gi μ1 28 1 = gi X 28 1)).trans ((hX 28 1 (by decide) (by decide)).trans ((nu 28 1 (by omega) (by omega)).trans hho)))
            have e618 : gi Q 60 18 = -1 := (b60 18 (by decide) (by decide)).trans g18
            show RelF _ _ _ _ _ _ _ _ _ _ _ _ _ _ _ _ _ _ _ _ _ _
            unfold RelF
            rw [env]
            refine ⟨d1, DM_lt d1 d2 (fun q hq => e61 q (by omega)), FM_lt d1 d3 e66, ⟨Or.inl e202, ((e61 702 (by omega)).trans d5).trans e202.symm, fun w => ?_⟩, e07.trans e618.symm, ⟨0, by omega, e11, e610, fun i hi => absurd hi (Nat.not_lt_zero _)⟩, 0, ho, by omega, h8o, e280, e65, e281, trivial⟩
            exact absurd (e202.symm.trans w) (by decide)
        · exact absurd c2 (fun w => by
            rw [Int32.le_iff_toInt_le] at w
            rw [Int32.lt_iff_toInt_lt] at hc
            omega)
      · -- bad
        have c2 : ¬ 0 ≤ c := fun w => by
          rw [Int32.le_iff_toInt_le] at w
          rw [Int32.lt_iff_toInt_lt] at hc
          omega
        have cz : c ≠ 0 := fun w => c2 (by rw [w]; decide)
        rw [if_neg c2] at cl
        obtain ⟨μ1, eμ⟩ : ∃ μ1, μ1 = si (si ν 1 1 (0 : Int32)) 0 7 (gi (si ν 1 1 (0 : Int32)) 1 3) := ⟨_, rfl⟩
        rw [← eμ] at cl
        have hμ : ∀ k i, k ≠ 0 → k ≠ 1 → (k < 47 ∨ 60 ≤ k) → gi μ1 k i = gi μ k i := fun k i a b d => by
          rw [eμ, gi_sik a, gi_sik b]; exact nu k i d (by omega)
        obtain ⟨ρf, l1, K2, o2⟩ := second μ1 (fun i => hμ 68 i (by omega) (by omega) (by omega)) ((hμ 60 10 (by omega) (by omega) (by omega)).trans hbm)
        have KI : ∀ k i, k ≠ 62 → k ≠ 67 → (k ≠ 60 ∨ i < 11 ∨ 20 < i) → gi ρf k i = gi (si μ1 60 6 (0 : Int32)) k i := K2.1
        rcases o2 with ⟨x, hx, cx, -⟩ | ⟨-, g17, g18⟩
        · exact absurd (show 0 ≤ c by rw [cx]; exact nI_pos' hx) c2
        · obtain ⟨Q, eQ⟩ : ∃ Q, Q = si ρf 60 10 (0 : Int32) := ⟨_, rfl⟩
          have lm : f_X8_load (nI j) μ1 = some (c, Q) := by
            rw [l1]
            unfold j_X8_load_137
            rw [← eQ, show gi Q 60 17 = c by rw [eQ, gi_sij (by decide), g17], if_neg cz]
          have bk : ∀ k i, k ≠ 0 → k ≠ 1 → (k < 47 ∨ 61 ≤ k) → k ≠ 62 → k ≠ 67 → gi Q k i = gi μ k i := fun k i a b d e f => by
            rw [eQ, gi_sik (by omega), KI k i e f (by omega), gi_sik (by omega)]; exact hμ k i a b (by omega)
          have fk : ∀ k, k ≠ 0 → k ≠ 1 → (k < 47 ∨ 61 ≤ k) → k ≠ 62 → k ≠ 67 → Q.1 k = μ.1 k := fun k a b d e f => funext fun i => bk k i a b d e f
          have f2 : ∀ k, k ≠ 60 → Q.2 k = μ.2 k := fun k a => funext fun i => by
            rw [eQ]
            show ρf.2 k i = μ.2 k i
            rw [K2.2 k i (by omega), eμ]
            show ν.2 k i = μ.2 k i
            rw [nu2]
          refine ⟨Q, ?_, ?_⟩
          · unfold f_case_1
            rw [cl, Option.bind_some, lm, Option.bind_some, if_pos rfl]
          · have env : nv 34 Q = nv 34 μ := nv_cg (fun k i a b => bk k i (by omega) (by omega) (by omega) (by omega) (by omega))
            have e07 : gi Q 0 7 = gi ν 1 3 := by
              rw [eQ, gi_sik (by decide), KI 0 7 (by decide) (by decide) (by decide), gi_sik (by decide), eμ, gi_sii, gi_sij (by decide)]
            have e618 : gi Q 60 18 = gi ν 1 3 := by rw [eQ, gi_sij (by decide), g18]
            have e11 : gi Q 1 1 = 0 := by
              rw [eQ, gi_sik (by decide), KI 1 1 (by decide) (by decide) (by decide), gi_sik (by decide), eμ, gi_sik (by decide), gi_sii]
            have e610 : gi Q 60 10 = 0 := by rw [eQ, gi_sii]
            have e65 : gi Q 60 5 = nI hn := by
              rw [eQ, gi_sij (by decide), KI 60 5 (by decide) (by decide) (by decide), gi_sij (by decide)]
              exact (hμ 60 5 (by decide) (by decide) (by decide)).trans hhm
            show RelF _ _ _ _ _ _ _ _ _ _ _ _ _ _ _ _ _ _ _ _ _ _
            unfold RelF
            rw [env, fk 61 (by omega) (by omega) (by omega) (by omega) (by omega), fk 66 (by omega) (by omega) (by omega) (by omega) (by omega), fk 20 (by omega) (by omega) (by omega) (by omega) (by omega), f2 22 (by omega), f2 64 (by omega), fk 28 (by omega) (by omega) (by omega) (by omega) (by omega), fk 29 (by omega) (by omega) (by omega) (by omega) (by omega), fk 30 (by omega) (by omega) (by omega) (by omega) (by omega), fk 31 (by omega) (by omega) (by omega) (by omega) (by omega), fk 32 (by omega) (by omega) (by omega) (by omega) (by omega), f2 33 (by omega), fk 63 (by omega) (by omega) (by omega) (by omega) (by omega), f2 65 (by omega)]
            exact ⟨C, D, F, H, e07.trans e618.symm, ⟨0, by omega, e11, e610, fun i hi => absurd hi (Nat.not_lt_zero _)⟩, hn, ho, h8, h8o, hhc, e65, hho, hRH⟩
    · refine no ?_ ?_
      · unfold f_X7_load
        rw [if_neg c0, hbc, if_neg (nI_ge (by omega) hj)]
      · unfold f_X8_inRange
        rw [if_neg c0, hbm, if_pos (nI_lt (by omega) hj)]
end LS

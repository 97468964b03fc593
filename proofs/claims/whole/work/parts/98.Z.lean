/-! a statement read; the text read -/
section SZ
variable {μ ρ ν : gM} {n p : Nat}
theorem Sim.of {fc gc : gM → Option (Bool × gM)} {fm gm : gM → Option gM} (S : Sim n p μ ρ fc fm) (e1 : gc μ = Option.bind (fc μ) (fun q => some (q.1, q.2))) (e2 : gm ρ = Option.bind (fm ρ) (fun q => some q)) : Sim n p μ ρ gc gm := by
  obtain ⟨b, ν, ρ2, h1, h2, r⟩ := S
  refine ⟨b, ν, ρ2, ?_, ?_, r⟩
  · rw [e1, h1]; rfl
  · rw [e2, h2]; rfl
theorem st_stmt (R : RD n p μ ρ) (D : DR μ ρ) : Sim n p μ ρ f_X4_readStatement f_X8_parseStatement := by
  obtain ⟨b5, i5, w5, -⟩ := cm_wd R (m := 5) (j := 5) (by decide) wk5
  obtain ⟨b7, i7, w7, -⟩ := cm_wd R (m := 5) (j := 7) (by decide) wk7
  obtain ⟨b8, i8, w8, -⟩ := cm_wd R (m := 4) (j := 8) (by decide) wk8
  obtain ⟨b9, i9, w9, -⟩ := cm_wd R (m := 4) (j := 9) (by decide) wk9
  obtain ⟨b10, i10, w10, -⟩ := cm_wd R (m := 3) (j := 10) (by decide) wk10
  have j5 : f_X4_isWord_5 μ = some b5 := i5
  have j7 : f_X4_isWord_7 μ = some b7 := i7
  have j8 : f_X4_isWord_8 μ = some b8 := i8
  have j9 : f_X4_isWord_9 μ = some b9 := i9
  have j10 : f_X4_isWord_10 μ = some b10 := i10
  cases b5 with
  | true =>
    refine (st_level R D).of ?_ ?_
    · unfold f_X4_readStatement
      rw [j5, Option.bind_some, if_neg (show ¬ b2i true = 0 by decide)]
    · unfold f_X8_parseStatement
      rw [w5, Option.bind_some, if_neg (show ¬ b2i true = 0 by decide)]
  | false =>
    cases b7 with
    | true =>
      refine (st_point R D).of ?_ ?_
      · unfold f_X4_readStatement
        rw [j5, Option.bind_some, if_pos (show b2i false = 0 from rfl), j7, Option.bind_some, if_neg (show ¬ b2i true = 0 by decide)]
      · unfold f_X8_parseStatement
        rw [w5, Option.bind_some, if_pos (show b2i false = 0 from rfl), w7, Option.bind_some, if_neg (show ¬ b2i true = 0 by decide)]
    | false =>
      cases b8 with
      | true =>
        refine (st_line R D).of ?_ ?_
        · unfold f_X4_readStatement
          rw [j5, Option.bind_some, if_pos (show b2i false = 0 from rfl), j7, Option.bind_some, if_pos (show b2i false = 0 from rfl), j8, Option.bind_some, if_neg (show ¬ b2i true = 0 by decide)]
        · unfold f_X8_parseStatement
          rw [w5, Option.bind_some, if_pos (show b2i false = 0 from rfl), w7, Option.bind_some, if_pos (show b2i false = 0 from rfl), w8, Option.bind_some, if_neg (show ¬ b2i true = 0 by decide)]
      | false =>
        cases b9 with
        | true =>
          refine (st_test R D).of ?_ ?_
          · unfold f_X4_readStatement
            rw [j5, Option.bind_some, if_pos (show b2i false = 0 from rfl), j7, Option.bind_some, if_pos (show b2i false = 0 from rfl), j8, Option.bind_some, if_pos (show b2i false = 0 from rfl), j9, Option.bind_some, if_neg (show ¬ b2i true = 0 by decide)]
          · unfold f_X8_parseStatement
            rw [w5, Option.bind_some, if_pos (show b2i false = 0 from rfl), w7, Option.bind_some, if_pos (show b2i false = 0 from rfl), w8, Option.bind_some, if_pos (show b2i false = 0 from rfl), w9, Option.bind_some, if_neg (show ¬ b2i true = 0 by decide)]
        | false =>
          cases b10 with
          | true =>
            refine (st_setting R D).of ?_ ?_
            · unfold f_X4_readStatement
              rw [j5, Option.bind_some, if_pos (show b2i false = 0 from rfl), j7, Option.bind_some, if_pos (show b2i false = 0 from rfl), j8, Option.bind_some, if_pos (show b2i false = 0 from rfl), j9, Option.bind_some, if_pos (show b2i false = 0 from rfl), j10, Option.bind_some, if_neg (show ¬ b2i true = 0 by decide)]
            · unfold f_X8_parseStatement
              rw [w5, Option.bind_some, if_pos (show b2i false = 0 from rfl), w7, Option.bind_some, if_pos (show b2i false = 0 from rfl), w8, Option.bind_some, if_pos (show b2i false = 0 from rfl), w9, Option.bind_some, if_pos (show b2i false = 0 from rfl), w10, Option.bind_some, if_neg (show ¬ b2i true = 0 by decide)]
          | false =>
            refine ⟨false, si μ 1 8 (-11), mE (-11) ρ, ?_, ?_, (KC.rf _).xsi (by omega), (KM.rf _).xE, Out.bad R (by decide)⟩
            · unfold f_X4_readStatement
              rw [j5, Option.bind_some, if_pos (show b2i false = 0 from rfl), j7, Option.bind_some, if_pos (show b2i false = 0 from rfl), j8, Option.bind_some, if_pos (show b2i false = 0 from rfl), j9, Option.bind_some, if_pos (show b2i false = 0 from rfl), j10, Option.bind_some, if_pos (show b2i false = 0 from rfl)]
              rfl
            · unfold f_X8_parseStatement
              rw [w5, Option.bind_some, if_pos (show b2i false = 0 from rfl), w7, Option.bind_some, if_pos (show b2i false = 0 from rfl), w8, Option.bind_some, if_pos (show b2i false = 0 from rfl), w9, Option.bind_some, if_pos (show b2i false = 0 from rfl), w10, Option.bind_some, if_pos (show b2i false = 0 from rfl), m_ck0 R.2.1]
              rfl
/-- what the model keeps over a text -/
def KN (μ ν : gM) : Prop := (∀ k i, k ≠ 62 → k ≠ 67 → (k ≠ 60 ∨ i < 12 ∨ 20 < i) → ν.1 k i = μ.1 k i) ∧ ∀ k i, (k ≠ 60 ∨ i ≠ 15) → ν.2 k i = μ.2 k i
theorem KN.rf (μ : gM) : KN μ μ := ⟨fun _ _ _ _ _ => rfl, fun _ _ _ => rfl⟩
theorem KN.km {ρ : gM} (h : KN μ ν) (h2 : KM ν ρ) : KN μ ρ := ⟨fun k i a b c => (h2.1 k i a b (by omega)).trans (h.1 k i a b c), fun k i a => (h2.2 k i a).trans (h.2 k i a)⟩
theorem KN.x20 {x : Int32} (h : KN μ ν) : KN μ (si ν 60 20 x) := ⟨fun a b q r s => by
  show (if a = 60 ∧ b = 20 then x else ν.1 a b) = _
  rw [if_neg (by omega)]; exact h.1 a b q r s, h.2⟩
theorem RD.le (R : RD n p μ ρ) : p ≤ n ∧ n ≤ 1200 := by
  obtain ⟨⟨k, s, e, a, b⟩, -⟩ := R
  have T := Tok_le a.2.2.1
  exact ⟨by omega, a.1⟩
theorem m_115E (h17 : gi ρ 60 17 ≠ 0) (y : Int32) : j_X8_load_115 y ρ = some (Sum.inl (si ρ 60 20 (gi ρ 60 20 + 1))) := by
  unfold j_X8_load_115
  rw [m_ckE h17, Option.bind_some, m_agE h17, Option.bind_some]
theorem m_83E (h17 : gi ρ 60 17 ≠ 0) : b_X8_load_83 ρ = some (Sum.inr ρ) := by
  unfold b_X8_load_83
  rw [if_neg h17]
/-- what a text comes to -/
def TxO (μ0 ρ0 : gM) (c : Int32) (ν ρf : gM) : Prop := KC μ0 ν ∧ KN ρ0 ρf ∧ ((∃ x, x < 2 ^ 31 ∧ c = nI x ∧ gi ρf 60 17 = 0 ∧ gi ρf 60 18 = -1 ∧ gi ρf 60 20 = c ∧ DR ν ρf) ∨ (c < 0 ∧ gi ρf 60 17 = c ∧ gi ρf 60 18 = gi ν 1 3))
theorem tx_loop {μ0 ρ0 : gM} {p0 : Nat} (R : RD n p0 μ0 ρ0) (D : DR μ0 ρ0) (h20 : gi ρ0 60 20 = 0) : ∃ r, gloop (fun t => b_X4_readText_25 (nI n) t.1 t.2) gFuel ((0 : Int32), μ0) = some r ∧ ∃ c ν ρf, r = Sum.inr (c, ν) ∧ gloop (fun t => b_X8_load_83 t) gFuel ρ0 = some ρf ∧ TxO μ0 ρ0 c ν ρf := by
  have gF : gFuel > 3000 := by unfold gFuel; omega
  have hn := R.le.2
  refine gloop_rel (body := fun t => b_X4_readText_25 (nI n) t.1 t.2) (fun i t => ∃ μi ρi q, t = (nI i, μi) ∧ gloop (fun t => b_X8_load_83 t) gFuel ρ0 = gloop (fun t => b_X8_load_83 t) (gFuel - i) ρi ∧ RD n q μi ρi ∧ DR μi ρi ∧ i ≤ q ∧ KC μ0 μi ∧ KN ρ0 ρi ∧ gi ρi 60 20 = nI i) _ n (fun i t hi hR => ?_) (by omega) (s0 := ((0 : Int32), μ0)) ⟨μ0, ρ0, p0, rfl, rfl, R, D, Nat.zero_le _, KC.rf _, KN.rf _, h20⟩
  obtain ⟨μi, ρi, q, rfl, e, Ri, Di, le, Fi, Gi, c20⟩ := hR
  show (∃ t, b_X4_readText_25 (nI n) (nI i) μi = _ ∧ _) ∨ ∃ r, b_X4_readText_25 (nI n) (nI i) μi = _ ∧ _
  unfold b_X4_readText_25
  rw [if_neg (nI_nlt hi (by omega))]
  by_cases k0 : gi μi 1 5 = 0
  · right
    rw [if_pos k0]
    refine ⟨_, rfl, nI i, μi, ρi, rfl, ?_, Fi, Gi, Or.inl ⟨i, by omega, rfl, Ri.2.1, Ri.2.2, c20, Di⟩⟩
    rw [e]
    refine gl_e (by omega) ?_
    show b_X8_load_83 ρi = _
    unfold b_X8_load_83
    rw [if_pos Ri.2.1, if_pos (Ri.kd.trans k0)]
  · rw [if_neg k0]
    obtain ⟨b, ν, ρ2, h1, h2, kc, km, out⟩ := st_stmt Ri Di
    have c20' : gi ρ2 60 20 = nI i := (km.1 60 20 (by decide) (by decide) (by omega)).trans c20
    have mb : b_X8_load_83 ρi = if gi ρ2 60 14 = 3 then j_X8_load_115 1 ρ2 else j_X8_load_115 0 ρ2 := by
      unfold b_X8_load_83
      rw [if_pos Ri.2.1, if_neg (by rw [Ri.kd]; exact k0), h2, Option.bind_some]
    rw [h1, Option.bind_some]
    have bad : ∀ {c : Int32} {ρ3 : gM}, (gi ρ3 60 17 = c ∧ gi ρ3 60 18 = gi ν 1 3) → c < 0 → KN ρ0 ρ3 → b_X8_load_83 ρi = some (Sum.inl (si ρ3 60 20 (gi ρ3 60 20 + 1))) → gloop (fun t => b_X8_load_83 t) gFuel ρ0 = some (si ρ3 60 20 (gi ρ3 60 20 + 1)) ∧ TxO μ0 ρ0 c ν (si ρ3 60 20 (gi ρ3 60 20 + 1)) := fun {c ρ3} hE hc kn hb => by
      have h17 : gi (si ρ3 60 20 (gi ρ3 60 20 + 1)) 60 17 ≠ 0 := by
        rw [gi_sij (by decide), hE.1]
        exact fun w => absurd hc (by rw [w]; decide)
      refine ⟨?_, Fi.tr kc, kn.x20, Or.inr ⟨hc, (gi_sij (by decide)).trans hE.1, (gi_sij (by decide)).trans hE.2⟩⟩
      rw [e, gl_s (by omega) (show (fun t => b_X8_load_83 t) ρi = _ from hb)]
      exact gl_e (by omega) (m_83E h17)
    rcases out with ⟨rfl, ⟨p2, le2, R2⟩, D2⟩ | ⟨rfl, k3, hE⟩ | ⟨rfl, hc, hE⟩
    · show (∃ t, (if b2i true = 0 then _ else _) = _ ∧ _) ∨ ∃ r, (if b2i true = 0 then _ else _) = _ ∧ _
      rw [if_neg (show ¬ b2i true = 0 by decide)]
      show (∃ t, (if gi ν 1 5 = 3 then _ else _) = _ ∧ _) ∨ ∃ r, (if gi ν 1 5 = 3 then _ else _) = _ ∧ _
      by_cases k3 : gi ν 1 5 = 3
      · left
        rw [if_pos k3]
        obtain ⟨μ3, ρ3, p3, a3, -, a3', F3, G3, R3, le3, le3', lt3⟩ := cm_adv R2
        have lt := lt3 (by rw [k3]; decide)
        rw [R2.kd, if_pos k3] at mb
        unfold j_X8_load_115 at mb
        rw [m_ck1, Option.bind_some, a3', Option.bind_some, show gi ρ3 60 20 = nI i from (G3.1 60 20 (by omega)).trans c20', nI_1] at mb
        refine ⟨(nI (i + 1), μ3), ?_, ⟨μ3, si ρ3 60 20 (nI (i + 1)), p3, rfl, ?_, R3.m (by omega), ?_, by omega, (Fi.tr kc).tr F3.kc, ((Gi.km km).km G3.km).x20, gi_sii⟩, by omega⟩
        · show Option.bind (f_X4_advance ν) _ = _
          rw [a3, Option.bind_some, nI_1]
        · rw [e, gl_s (by omega) (show (fun t => b_X8_load_83 t) ρi = _ from mb), show gFuel - i - 1 = gFuel - (i + 1) by omega]
        · obtain ⟨d1, d2, d3, d4, d5⟩ := D2.fr F3 G3
          exact ⟨d1, d2, d3, (gi_sij (by decide)).trans d4, (gi_sik (by decide)).trans d5⟩
      · right
        rw [if_neg k3]
        have h17 := lt0 (ρ := ρ2) (c := -11) (by decide)
        rw [R2.kd, if_neg k3] at mb
        unfold j_X8_load_115 at mb
        rw [m_ck0 R2.2.1, Option.bind_some, m_agE h17, Option.bind_some] at mb
        obtain ⟨g1, g2⟩ := bad (c := -11) (Er_E R2) (by decide) ((Gi.km km).km (KM.rf _).xE) mb
        exact ⟨_, rfl, -11, ν, _, rfl, g1, g2⟩
    · right
      show ∃ r, (if b2i true = 0 then _ else _) = _ ∧ _
      rw [if_neg (show ¬ b2i true = 0 by decide)]
      show ∃ r, (if gi ν 1 5 = 3 then _ else _) = _ ∧ _
      rw [if_neg k3]
      have h17 : gi ρ2 60 17 ≠ 0 := by rw [hE.1]; decide
      rw [m_115E h17, m_115E h17, ite_self] at mb
      obtain ⟨g1, g2⟩ := bad hE (by decide) (Gi.km km) mb
      exact ⟨_, rfl, -11, ν, _, rfl, g1, g2⟩
    · right
      show ∃ r, (if b2i false = 0 then _ else _) = _ ∧ _
      rw [if_pos (show b2i false = 0 from rfl)]
      have h17 : gi ρ2 60 17 ≠ 0 := by
        rw [hE.1]
        exact fun w => absurd hc (by rw [w]; decide)
      rw [m_115E h17, m_115E h17, ite_self] at mb
      obtain ⟨g1, g2⟩ := bad hE hc (Gi.km km) mb
      exact ⟨_, rfl, gi ν 1 8, ν, _, rfl, g1, g2⟩
end SZ

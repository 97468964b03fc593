section SM
variable {v : Nat → Nat → Int32} {μ : gM}
theorem m_relax (C : MO v μ) {s p q k : Nat} {D : Nat → Option Nat} (hp : p < nP v) (hq : q < nP v) (hk : k < nN v) (I : DI v s D) (h : CD v 69 D μ) : ∃ ρ, f_X8_relaxes (nI p) (nI q) (nI k) μ = some ((rlx D p q (ln v k)).1, ρ) ∧ CD v 69 (rlx D p q (ln v k)).2 ρ ∧ Fq μ ρ := by
  have hb := C.1.b
  have hl := (C.1.line hk).lnb
  unfold f_X8_relaxes j_X8_relaxes_41
  simp (disch := omega) only [gck, nI_clamp]
  rw [h p hp, h q hq, m_length C hk, Option.bind_some, Option.bind_some]
  cases e1 : D p with
  | none =>
    rw [rlx_n e1]
    exact ⟨μ, if_pos (by decide), h, Fr.rf μ, rfl⟩
  | some a =>
    have ha := I.b C.1 e1
    rw [show oI (some a) = nI a from rfl, if_neg (nI_pos (by omega)), nI_add]
    cases e2 : D q with
    | none =>
      rw [rlx_s e1 e2]
      exact ⟨_, if_pos (by decide), CD_u h, (Fr.rf μ).si rfl, rfl⟩
    | some b =>
      have hb2 := I.b C.1 e2
      rw [rlx_b e1 e2, show oI (some b) = nI b from rfl, if_neg (nI_pos (by omega))]
      by_cases c : b ≤ a + ln v k
      · rw [if_pos c, if_neg (nI_nlt c (by omega))]
        exact ⟨μ, rfl, h, Fr.rf μ, rfl⟩
      · rw [if_neg c, if_pos (nI_lt (by omega) (by omega))]
        exact ⟨_, rfl, CD_u h, (Fr.rf μ).si rfl, rfl⟩
theorem m_passW (C : MO v μ) {s : Nat} {D : Nat → Option Nat} (I : DI v s D) (h : CD v 69 D μ) : ∃ ρ, gloop (fun t => b_X8_layFar_38 t.1 t.2.1 t.2.2) gFuel ((0 : Int32), (0 : Int32), μ) = some (b2i (pas v D (nN v)).1, ρ) ∧ CD v 69 (pas v D (nN v)).2 ρ ∧ Fq μ ρ := by
  have hb := C.1.b
  obtain ⟨⟨x, ρ⟩, h1, e1, D1, F1⟩ := gloop_rel (body := fun t => b_X8_layFar_38 t.1 t.2.1 t.2.2) (fun k t => k ≤ nN v ∧ t.1 = b2i (pas v D k).1 ∧ t.2.1 = nI k ∧ CD v 69 (pas v D k).2 t.2.2 ∧ Fq μ t.2.2) (fun r => r.1 = b2i (pas v D (nN v)).1 ∧ CD v 69 (pas v D (nN v)).2 r.2 ∧ Fq μ r.2) (nN v) (fun k t hk hR => by
    obtain ⟨x, y, ν⟩ := t
    obtain ⟨-, e1, e2, H, F⟩ := hR
    have e1 : x = b2i (pas v D k).1 := e1
    have e2 : y = nI k := e2
    subst e1 e2
    replace H : CD v 69 (pas v D k).2 ν := H
    replace F : Fq μ ν := F
    have E := C.fr F.1
    have J := pas_I C.1 I k hk
    show (∃ t, b_X8_layFar_38 (b2i (pas v D k).1) (nI k) ν = _ ∧ _) ∨ ∃ r, b_X8_layFar_38 _ _ ν = _ ∧ _
    unfold b_X8_layFar_38
    rw [m_cN E, Option.bind_some]
    by_cases c : k < nN v
    · left
      have hg := C.1.g k c
      rw [if_neg (nI_ge c (by omega)), m_isActive E c, Option.bind_some, nI_1]
      have es : pas v D (k + 1) = pln v (pas v D k) k := rfl
      by_cases a : (nA v).testBit k = true
      · rw [if_neg (show ¬ b2i ((nA v).testBit k) = 0 from by rw [a]; decide), m_first E c, Option.bind_some, m_second E c, Option.bind_some]
        obtain ⟨ρ1, g1, g2, g3⟩ := m_relax E hg.1 hg.2 c J.1 H
        have J1 := (rlx_I (p := fs v k) (q := sn v k) (D := (pas v D k).2) C.1 c ⟨a, Or.inr rfl⟩ brO_s hg.2 J.1).1
        have E1 := E.fr g3.1
        obtain ⟨ρ2, u1, u2, u3⟩ := m_relax E1 hg.2 hg.1 c J1 g2
        rw [g1, Option.bind_some, m_second E1 c, Option.bind_some, m_first E1 c, Option.bind_some, u1, Option.bind_some, es, show pln v (pas v D k) k = _ from if_pos a]
        have fin : ∀ b : Bool, b = ((pas v D k).1 || (rlx (pas v D k).2 (fs v k) (sn v k) (ln v k)).1 || (rlx (rlx (pas v D k).2 (fs v k) (sn v k) (ln v k)).2 (sn v k) (fs v k) (ln v k)).1) → ∃ t, some (Sum.inl (b2i b, nI (k + 1), ρ2)) = (some (Sum.inl t) : Option ((Int32 × Int32 × gM) ⊕ (Int32 × gM))) ∧ (k + 1 ≤ nN v ∧ t.1 = b2i ((pas v D k).1 || (rlx (pas v D k).2 (fs v k) (sn v k) (ln v k)).1 || (rlx (rlx (pas v D k).2 (fs v k) (sn v k) (ln v k)).2 (sn v k) (fs v k) (ln v k)).1) ∧ t.2.1 = nI (k + 1) ∧ CD v 69 (rlx (rlx (pas v D k).2 (fs v k) (sn v k) (ln v k)).2 (sn v k) (fs v k) (ln v k)).2 t.2.2 ∧ Fq μ t.2.2) ∧ k < nN v := fun b hb => ⟨_, rfl, ⟨by omega, by rw [hb], rfl, u2, (F.tr g3).tr u3⟩, c⟩
        have nf : ∀ x : Bool, ¬ x = false → x = true := fun x h => by
          cases x with
          | true => rfl
          | false => exact absurd rfl h
        by_cases b1 : (pas v D k).1 = false
        · rw [if_pos (b2i_0.mpr b1)]
          by_cases b2 : (rlx (pas v D k).2 (fs v k) (sn v k) (ln v k)).1 = false
          · rw [if_pos (b2i_0.mpr b2)]
            by_cases b3 : (rlx (rlx (pas v D k).2 (fs v k) (sn v k) (ln v k)).2 (sn v k) (fs v k) (ln v k)).1 = false
            · rw [if_pos (b2i_0.mpr b3)]
              exact fin false (by rw [b1, b2, b3]; rfl)
            · rw [if_neg (fun w => b3 (b2i_0.mp w))]
              exact fin true (by rw [nf _ b3, Bool.or_true])
          · rw [if_neg (fun w => b2 (b2i_0.mp w))]
            exact fin true (by rw [nf _ b2, Bool.or_true, Bool.true_or])
        · rw [if_neg (fun w => b1 (b2i_0.mp w))]
          exact fin true (by rw [nf _ b1, Bool.true_or, Bool.true_or])
      · rw [if_pos (show b2i ((nA v).testBit k) = 0 from b2i_0.mpr (Bool.eq_false_iff.mpr a)), es, show pln v (pas v D k) k = pas v D k from if_neg a]
        exact ⟨_, rfl, ⟨by omega, rfl, rfl, H, F⟩, c⟩
    · right
      have e : k = nN v := by omega
      subst e
      exact ⟨_, if_pos (nI_le (Nat.le_refl _) (by omega)), rfl, H, F⟩) (by unfold gFuel; omega) (s0 := (b2i false, nI 0, μ)) ⟨by omega, rfl, rfl, h, Fr.rf μ, rfl⟩
  have e1 : x = b2i (pas v D (nN v)).1 := e1
  subst e1
  exact ⟨ρ, h1, D1, F1⟩
theorem m_layFar (C : MO v μ) {s : Nat} (hs : s < nP v) : ∃ ρ D, f_X8_layFar (nI s) μ = some ρ ∧ DI v s D ∧ alS v s D ∧ CD v 69 D ρ ∧ Fq μ ρ := by
  have hb := C.1.b
  obtain ⟨ν1, h1, F1, Z1⟩ := gloop_rel (body := fun t => b_X8_layFar_2 (nI s) t.1 t.2) (fun i t => i ≤ 16 ∧ t.1 = nI i ∧ Fq μ t.2 ∧ ∀ q, q < i → gi t.2 69 q = -1) (fun r => Fq μ r ∧ ∀ q, q < 16 → gi r 69 q = -1) 16 (fun i t hi hR => by
    obtain ⟨x, ν⟩ := t
    obtain ⟨-, e1, F, Z⟩ := hR
    have e1 : x = nI i := e1
    subst e1
    replace F : Fq μ ν := F
    show (∃ t, b_X8_layFar_2 (nI s) (nI i) ν = _ ∧ _) ∨ ∃ q, b_X8_layFar_2 _ _ ν = _ ∧ _
    unfold b_X8_layFar_2
    by_cases c : i < 16
    · left
      rw [if_neg (ge16 c)]
      simp (disch := omega) only [gck, nI_clamp, nI_1]
      refine ⟨_, rfl, ⟨by omega, rfl, ⟨F.1.si rfl, F.2⟩, fun q hq => ?_⟩, c⟩
      by_cases e : q = i
      · rw [e]; exact gi_sii
      · exact (gi_sij e).trans (Z q (by omega))
    · right
      have e : i = 16 := by omega
      subst e
      exact ⟨_, if_pos (show (16 : Int32) ≤ nI 16 by decide), F, Z⟩) (by unfold gFuel; omega) (s0 := (nI 0, μ)) ⟨by omega, rfl, ⟨Fr.rf μ, rfl⟩, fun q hq => absurd hq (Nat.not_lt_zero _)⟩
  obtain ⟨I0, c0⟩ := D0_I hs
  obtain ⟨ρ, h3, D, I3, A3, D3, F3⟩ := gloop_rel (body := fun t => b_X8_layFar_30 t.1 t.2) (fun i t => ∃ c D, t.1 = b2i c ∧ DI v s D ∧ (alS v s D ∨ i + 1 ≤ cntB (sB v s D) (nP v)) ∧ (c = false → alS v s D) ∧ (i ≤ nP v ∨ c = false) ∧ CD v 69 D t.2 ∧ Fq μ t.2) (fun r => ∃ D, DI v s D ∧ alS v s D ∧ CD v 69 D r ∧ Fq μ r) (nP v + 1) (fun i t hi hR => by
    obtain ⟨x, ν⟩ := t
    obtain ⟨c, D, e1, I, G, A, B, H, F⟩ := hR
    have e1 : x = b2i c := e1
    subst e1
    replace F : Fq μ ν := F
    have E := C.fr F.1
    show (∃ t, b_X8_layFar_30 (b2i c) ν = _ ∧ _) ∨ ∃ q, b_X8_layFar_30 _ ν = _ ∧ _
    unfold b_X8_layFar_30
    cases c with
    | false => exact Or.inr ⟨_, if_pos rfl, D, I, A rfl, H, F⟩
    | true =>
      left
      have hiP : i ≤ nP v := B.resolve_right (by decide)
      rw [if_neg (by decide)]
      obtain ⟨ρ, g1, g2, g4⟩ := m_passW E I H
      obtain ⟨a1, a2, a3, a4⟩ := pas_I C.1 I (nN v) (Nat.le_refl _)
      rw [g1, Option.bind_some]
      refine ⟨_, rfl, ⟨_, _, rfl, a1, pas_gr C.1 I G, fun hf => ?_, ?_, g2, F.tr g4⟩, by omega⟩
      · obtain ⟨b1, b2⟩ := a4 hf
        rw [b1]
        exact stl_all C.1 I b2
      · by_cases d : i < nP v
        · exact Or.inl (by omega)
        · rw [pas_al C.1 I (cnt_al G (by omega)) (nN v) (Nat.le_refl _)]
          exact Or.inr rfl) (by unfold gFuel; omega) (s0 := (b2i true, si ν1 69 s 0)) ⟨true, D0 s, rfl, I0, Or.inr c0, fun h => (nomatch h), Or.inl (Nat.zero_le _), fun q hq => by
        show gi (si ν1 69 s 0) 69 q = oI (uN (fun _ => none) s (some 0) q)
        by_cases e : q = s
        · rw [e, uN_s, gi_sii]; rfl
        · rw [uN_n e, gi_sij e]; exact Z1 q (by omega), F1.1.si rfl, F1.2⟩
  refine ⟨ρ, D, ?_, I3, A3, D3, F3⟩
  unfold f_X8_layFar
  rw [show gloop (fun t => b_X8_layFar_2 (nI s) t.1 t.2) gFuel ((0 : Int32), μ) = _ from h1, Option.bind_some, gck (by omega) (by decide), nI_clamp (by omega), show gloop (fun t => b_X8_layFar_30 t.1 t.2) gFuel ((1 : Int32), si ν1 69 s 0) = _ from h3]
  rfl
/-! the way back -/
def bkP (v : Nat → Nat → Int32) (D : Nat → Option Nat) (q k : Nat) : Bool := decide (tT v k q) && (match D (oO v k q), D q with
  | some a, some d => decide (a + ln v k = d)
  | _, _ => false)
theorem bkP_t {D : Nat → Option Nat} {q k : Nat} : bkP v D q k = true ↔ tT v k q ∧ ∃ a d, D (oO v k q) = some a ∧ D q = some d ∧ a + ln v k = d := by
  unfold bkP
  rw [Bool.and_eq_true, decide_eq_true_eq]
  refine and_congr Iff.rfl ?_
  cases D (oO v k q) with
  | none => exact ⟨fun h => (nomatch h), fun ⟨a, d, h, _⟩ => (nomatch h)⟩
  | some a =>
    cases D q with
    | none => exact ⟨fun h => (nomatch h), fun ⟨a, d, _, h, _⟩ => (nomatch h)⟩
    | some d =>
      show decide (a + ln v k = d) = true ↔ _
      rw [decide_eq_true_eq]
      exact ⟨fun h => ⟨a, d, rfl, rfl, h⟩, fun ⟨a', d', h1, h2, h3⟩ => by cases h1; cases h2; exact h3⟩
def bkN (v : Nat → Nat → Int32) (D : Nat → Option Nat) (q : Nat) : Option Nat := fstN (bkP v D q) (nN v)
def wyf (v : Nat → Nat → Int32) (D : Nat → Option Nat) (s : Nat) : Nat → Nat → Int32 × Int32 → Int32 × Int32
  | 0, _, X => X
  | f + 1, h, X => if h = s then X else match bkN v D h with
    | none => X
    | some k => wyf v D s f (oO v k h) (X.1 ||| ((1 : Int32) <<< (nI k &&& 31)), X.2 + rfr v (oO v k h) k)
theorem bkN_ex (C : CI v) {s q d : Nat} {D : Nat → Option Nat} (I : DI v s D) (A : alS v s D) (hd : D q = some d) (hq : q ≠ s) : ∃ k, bkN v D q = some k ∧ k < nN v ∧ tT v k q ∧ (∃ e, D (oO v k q) = some e ∧ e + ln v k = d) ∧ ∀ j, j < k → bkP v D q j = false := by
  obtain ⟨d2, hd2, hF⟩ := A q d (I.2 q d hd).2.1
  rw [hd] at hd2
  cases hd2
  obtain ⟨k, hk, ht, e, he, hde⟩ := isF_p hF hq
  obtain ⟨e2, he2, hF2⟩ := A _ e he.1
  have : e2 = e := Nat.le_antisymm (hF2.2 e he.1) (he.2 e2 hF2.1)
  subst this
  have hb : bkP v D q k = true := bkP_t.mpr ⟨ht, e2, d, he2, hd, hde.symm⟩
  cases c : bkN v D q with
  | none => exact absurd hb (by rw [fstN_none c k hk]; decide)
  | some j =>
    obtain ⟨h1, h2, h3⟩ := fstN_lt c
    obtain ⟨g1, a, d3, g2, g3, g4⟩ := bkP_t.mp h2
    rw [hd] at g3
    cases g3
    exact ⟨j, rfl, h1, g1, ⟨a, g2, g4⟩, h3⟩
end SM

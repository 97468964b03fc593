section SP
variable {v : Nat → Nat → Int32}
/-! both sides find the shortest ways -/
noncomputable def sB9 (v : Nat → Nat → Int32) (s : Nat) (D : Nat → Option Nat) (q : Nat) : Bool := @decide (stl v s D q) (Classical.propDecidable _)
theorem sB_t {s : Nat} {D : Nat → Option Nat} {q : Nat} : sB9 v s D q = true ↔ stl v s D q := @decide_eq_true_iff _ (Classical.propDecidable _)
theorem pas_al (C : CI v) {s : Nat} {D : Nat → Option Nat} (I : DI v s D) (h : alS v s D) : ∀ k, k ≤ nN v → pas v D k = (false, D)
  | 0, _ => rfl
  | k + 1, hk => by
    have one : ∀ p q, tT v k q → oO v k q = p → rlx D p q (ln v k) = (false, D) := fun p q ht ho => by
      cases e1 : D p with
      | none => exact rlx_n e1
      | some a =>
        have wka := (I.2 p a e1).2.1
        obtain ⟨i, hi⟩ := wka
        have wkq : wk v s q (a + ln v k) := ⟨i + 1, k, by omega, ht, a, by rw [ho]; exact hi, rfl⟩
        obtain ⟨b, hb, hF⟩ := h q _ wkq
        rw [rlx_b e1 hb, if_pos (hF.2 _ wkq)]
    show pln v (pas v D k) k = _
    rw [pas_al C I h k (by omega)]
    unfold pln
    by_cases c : (nA v).testBit k = true
    · rw [if_pos c, one (fs v k) (sn v k) ⟨c, Or.inr rfl⟩ brO_s, one (sn v k) (fs v k) ⟨c, Or.inl rfl⟩ brO_f]; rfl
    · rw [if_neg c]
theorem pas_gr (C : CI v) {s : Nat} {D : Nat → Option Nat} {i : Nat} (I : DI v s D) (h : alS v s D ∨ i + 1 ≤ cntB (sB9 v s D) (nP v)) : alS v s (pas v D (nN v)).2 ∨ i + 2 ≤ cntB (sB9 v s (pas v D (nN v)).2) (nP v) := by
  obtain ⟨a1, a2, a3, a4⟩ := pas_I C I (nN v) (Nat.le_refl _)
  by_cases al : alS v s D
  · exact Or.inl (fun q d hw => stl_k a2 a1 (al q d hw))
  · have h := h.resolve_left al
    obtain ⟨q0, d0, hw, hn⟩ : ∃ q d, wk v s q d ∧ ¬ stl v s D q := Classical.byContradiction (fun hh => al (fun q d hw => Classical.byContradiction (fun hn => hh ⟨q, d, hw, hn⟩)))
    obtain ⟨k, q, e, hk, ht, hF, hqn, hD⟩ := stl_n C I hw hn
    obtain ⟨b, hb, hl⟩ := a3 k hk ht.1 _ _ (ends ht) e hD
    have hge := hF.2 b (a1.2 q b hb).2.1
    have hbe : b = e + ln v k := by omega
    have hs : stl v s (pas v D (nN v)).2 q := ⟨b, hb, by rw [hbe]; exact hF⟩
    have := cntB_st (M := sB9 v s D) (N := sB9 v s (pas v D (nN v)).2) (j := q) (by
      cases f : sB9 v s D q with
      | false => rfl
      | true => exact absurd (sB_t.mp f) hqn) (sB_t.mpr hs) (nP v) (a1.2 q b hb).1 (fun x _ hx => sB_t.mpr (stl_k a2 a1 (sB_t.mp hx)))
    exact Or.inr (by omega)
def D0 (s : Nat) : Nat → Option Nat := uN (fun _ => none) s (some 0)
theorem D0_I {s : Nat} (hs : s < nP v) : DI v s (D0 s) ∧ 1 ≤ cntB (sB9 v s (D0 s)) (nP v) := by
  have h0 : D0 s s = some 0 := uN_s
  refine ⟨⟨h0, fun q d hd => ?_⟩, ?_⟩
  · by_cases e : q = s
    · subst e
      rw [h0] at hd; cases hd
      exact ⟨hs, ⟨0, rfl, rfl⟩, Nat.zero_le _⟩
    · have : D0 s q = none := uN_n e
      rw [this] at hd; cases hd
  · have := cntB_st (M := fun _ => false) (N := sB9 v s (D0 s)) (j := s) rfl (sB_t.mpr ⟨0, h0, isF_0⟩) (nP v) hs (fun _ _ h => by cases h)
    omega
theorem cnt_al {s i : Nat} {D : Nat → Option Nat} (h : alS v s D ∨ i + 1 ≤ cntB (sB9 v s D) (nP v)) (hi : nP v ≤ i) : alS v s D := by
  have := cntB_le (sB9 v s D) (nP v)
  exact h.resolve_right (by omega)
theorem DI.b (C : CI v) {s q d : Nat} {D : Nat → Option Nat} (I : DI v s D) (h : D q = some d) : d ≤ 25600 := by
  have := (I.2 q d h).2.2
  have h2 := cntB_le (fun q => (D q).isSome) (nP v)
  have := C.b
  omega
theorem oI_m1 {D : Nat → Option Nat} {q : Nat} (hb : ∀ d, D q = some d → d ≤ 25600) : (oI (D q) = -1) ↔ D q = none := by
  cases e : D q with
  | none => exact ⟨fun _ => rfl, fun _ => rfl⟩
  | some d =>
    have := hb d e
    exact ⟨fun w => absurd w (m1_ne (by omega)), fun w => nomatch w⟩
theorem oI_lt {D : Nat → Option Nat} {q : Nat} (hb : ∀ d, D q = some d → d ≤ 25600) : (oI (D q) < 0) ↔ D q = none := by
  cases e : D q with
  | none => exact ⟨fun _ => rfl, fun _ => by decide⟩
  | some d =>
    have := hb d e
    exact ⟨fun w => absurd w (nI_pos (by omega)), fun w => nomatch w⟩
end SP
section SC
variable {v : Nat → Nat → Int32} {μ : gM}
def CD (v : Nat → Nat → Int32) (a : Nat) (D : Nat → Option Nat) (μ : gM) : Prop := ∀ q, q < nP v → gi μ a q = oI (D q)
theorem CD_u {a q d : Nat} {D : Nat → Option Nat} {ν : gM} (h : CD v a D ν) : CD v a (uN D q (some d)) (si ν a q (nI d)) := fun r hr => by
  by_cases e : r = q
  · rw [e, uN_s, gi_sii]; rfl
  · rw [uN_n e, gi_sij e]; exact h r hr
def CLn (v : Nat → Nat → Int32) (μ : gM) : Prop := ∀ k, k < nN v → gi μ 5 k = nI (ln v k)
theorem c_shorten (C : CI v) {s p q k : Nat} {D : Nat → Option Nat} {ν : gM} (hp : p < nP v) (hq : q < nP v) (hk : k < nN v) (I : DI v s D) (h : CD v 4 D ν) : ∃ ρ, f_X6_shorten (nI p) (nI q) (nI (ln v k)) ν = some ((rlx D p q (ln v k)).1, ρ) ∧ CD v 4 (rlx D p q (ln v k)).2 ρ ∧ Fr ν ρ ∧ ∀ i, gi ρ 5 i = gi ν 5 i := by
  have hb := C.b
  have hl := (C.line hk).lnb
  unfold f_X6_shorten
  simp (disch := omega) only [gck, nI_clamp]
  rw [h p hp, h q hq]
  cases e1 : D p with
  | none =>
    rw [rlx_n e1]
    exact ⟨ν, if_pos rfl, h, Fr.rf ν, fun _ => rfl⟩
  | some a =>
    have ha := I.b C e1
    rw [show oI (some a) = nI a from rfl, if_neg (m1_ne (by omega)), nI_add]
    cases e2 : D q with
    | none =>
      rw [rlx_s e1 e2]
      exact ⟨_, if_pos rfl, CD_u h, (Fr.rf ν).si rfl, fun _ => gi_sik (by decide)⟩
    | some b =>
      have hb2 := I.b C e2
      rw [rlx_b e1 e2, show oI (some b) = nI b from rfl, if_neg (m1_ne (by omega))]
      by_cases c : b ≤ a + ln v k
      · rw [if_pos c, if_neg (nI_nlt c (by omega))]
        exact ⟨ν, rfl, h, Fr.rf ν, fun _ => rfl⟩
      · rw [if_neg c, if_pos (nI_lt (by omega) (by omega))]
        exact ⟨_, rfl, CD_u h, (Fr.rf ν).si rfl, fun _ => gi_sik (by decide)⟩
theorem c_pass (C : CO v μ) {s : Nat} {D : Nat → Option Nat} (I : DI v s D) (h : CD v 4 D μ) (hl : CLn v μ) : ∃ ρ, f_X6_shortenAll μ = some ((pas v D (nN v)).1, ρ) ∧ CD v 4 (pas v D (nN v)).2 ρ ∧ CLn v ρ ∧ Fr μ ρ := by
  have hb := C.1.b
  obtain ⟨⟨x, ρ⟩, h1, e1, D1, L1, F1⟩ := gloop_rel (body := fun t => b_X6_shortenAll_4 t.1 t.2.1 t.2.2) (fun k t => k ≤ nN v ∧ t.1 = b2i (pas v D k).1 ∧ t.2.1 = nI k ∧ CD v 4 (pas v D k).2 t.2.2 ∧ CLn v t.2.2 ∧ Fr μ t.2.2) (fun r => r.1 = b2i (pas v D (nN v)).1 ∧ CD v 4 (pas v D (nN v)).2 r.2 ∧ CLn v r.2 ∧ Fr μ r.2) (nN v) (fun k t hk hR => by
    obtain ⟨x, y, ν⟩ := t
    obtain ⟨-, e1, e2, H, L, F⟩ := hR
    have e1 : x = b2i (pas v D k).1 := e1
    have e2 : y = nI k := e2
    subst e1 e2
    replace H : CD v 4 (pas v D k).2 ν := H
    replace L : CLn v ν := L
    replace F : Fr μ ν := F
    have E := C.fr F
    have J := pas_I C.1 I k hk
    show (∃ t, b_X6_shortenAll_4 (b2i (pas v D k).1) (nI k) ν = _ ∧ _) ∨ ∃ r, b_X6_shortenAll_4 _ _ ν = _ ∧ _
    unfold b_X6_shortenAll_4
    rw [E.N]
    by_cases c : k < nN v
    · left
      have hg := C.1.g k c
      rw [if_neg (nI_ge c (by omega)), c_isActive E c, Option.bind_some, nI_1]
      have es : pas v D (k + 1) = pln v (pas v D k) k := rfl
      by_cases a : (nA v).testBit k = true
      · rw [if_neg (show ¬ b2i ((nA v).testBit k) = 0 from by rw [a]; decide)]
        simp (disch := omega) only [gck, nI_clamp, c_fs E c, c_sn E c]
        rw [L k c]
        obtain ⟨ρ1, g1, g2, g3, g4⟩ := c_shorten C.1 hg.1 hg.2 c J.1 H
        have J1 := (rlx_I (p := fs v k) (q := sn v k) (D := (pas v D k).2) C.1 c ⟨a, Or.inr rfl⟩ brO_s hg.2 J.1).1
        obtain ⟨ρ2, u1, u2, u3, u4⟩ := c_shorten C.1 hg.2 hg.1 c J1 g2
        rw [g1, Option.bind_some, g4 k, L k c, u1, Option.bind_some, es, show pln v (pas v D k) k = _ from if_pos a]
        have fin : ∀ b : Bool, b = ((pas v D k).1 || (rlx (pas v D k).2 (fs v k) (sn v k) (ln v k)).1 || (rlx (rlx (pas v D k).2 (fs v k) (sn v k) (ln v k)).2 (sn v k) (fs v k) (ln v k)).1) → ∃ t, some (Sum.inl (b2i b, nI (k + 1), ρ2)) = (some (Sum.inl t) : Option ((Int32 × Int32 × gM) ⊕ (Int32 × gM))) ∧ (k + 1 ≤ nN v ∧ t.1 = b2i ((pas v D k).1 || (rlx (pas v D k).2 (fs v k) (sn v k) (ln v k)).1 || (rlx (rlx (pas v D k).2 (fs v k) (sn v k) (ln v k)).2 (sn v k) (fs v k) (ln v k)).1) ∧ t.2.1 = nI (k + 1) ∧ CD v 4 (rlx (rlx (pas v D k).2 (fs v k) (sn v k) (ln v k)).2 (sn v k) (fs v k) (ln v k)).2 t.2.2 ∧ CLn v t.2.2 ∧ Fr μ t.2.2) ∧ k < nN v := fun b hb => ⟨_, rfl, ⟨by omega, by rw [hb], rfl, u2, fun j hj => (u4 j).trans ((g4 j).trans (L j hj)), (F.tr g3).tr u3⟩, c⟩
        have nf : ∀ x : Bool, ¬ x = false → x = true := fun x h => by
          cases x with
          | true => rfl
          | false => exact absurd rfl h
        by_cases b1 : (pas v D k).1 = false
        · rw [if_pos (b2i_0.mpr b1)]
          by_cases b2 : (rlx (pas v D k).2 (fs v k) (sn v k) (ln v k)).1 = false
          · rw [if_pos (b2i_0.mpr b2)]
            by_cases b3 : (rlx (rlx (pas v D k).2 (fs v k) (sn v k) (ln v k)).2 (sn v k) (fs v k) (ln v k)).1 = false
            · rw [if_pos (b2i_0.mpr b3)]
              exact fin false (by rw [b1, b2, b3]; rfl)
            · rw [if_neg (fun w => b3 (b2i_0.mp w))]
              exact fin true (by rw [nf _ b3, Bool.or_true])
          · rw [if_neg (fun w => b2 (b2i_0.mp w))]
            exact fin true (by rw [nf _ b2, Bool.or_true, Bool.true_or])
        · rw [if_neg (fun w => b1 (b2i_0.mp w))]
          exact fin true (by rw [nf _ b1, Bool.true_or, Bool.true_or])
      · rw [if_pos (show b2i ((nA v).testBit k) = 0 from b2i_0.mpr (Bool.eq_false_iff.mpr a)), es, show pln v (pas v D k) k = pas v D k from if_neg a]
        exact ⟨_, rfl, ⟨by omega, rfl, rfl, H, L, F⟩, c⟩
    · right
      have e : k = nN v := by omega
      subst e
      exact ⟨_, if_pos (nI_le (Nat.le_refl _) (by omega)), rfl, H, L, F⟩) (by unfold gFuel; omega) (s0 := (b2i false, nI 0, μ)) ⟨by omega, rfl, rfl, h, hl, Fr.rf μ⟩
  have e1 : x = b2i (pas v D (nN v)).1 := e1
  subst e1
  unfold f_X6_shortenAll
  rw [show gloop (fun t => b_X6_shortenAll_4 t.1 t.2.1 t.2.2) gFuel ((0 : Int32), (0 : Int32), μ) = _ from h1, Option.bind_some, i2b_b]
  exact ⟨_, rfl, D1, L1, F1⟩
theorem c_measure (C : CO v μ) {s : Nat} (hs : s < nP v) : ∃ ρ D, f_X6_measure (nI s) μ = some ρ ∧ DI v s D ∧ alS v s D ∧ CD v 4 D ρ ∧ CLn v ρ ∧ Fr μ ρ := by
  have hb := C.1.b
  obtain ⟨ν1, h1, F1, Z1⟩ := gloop_rel (body := fun t => b_X6_measure_2 (nI s) t.1 t.2) (fun i t => i ≤ nP v ∧ t.1 = nI i ∧ Fr μ t.2 ∧ ∀ q, q < i → gi t.2 4 q = -1) (fun r => Fr μ r ∧ ∀ q, q < nP v → gi r 4 q = -1) (nP v) (fun i t hi hR => by
    obtain ⟨x, ν⟩ := t
    obtain ⟨-, e1, F, Z⟩ := hR
    have e1 : x = nI i := e1
    subst e1
    replace F : Fr μ ν := F
    have E := C.fr F
    show (∃ t, b_X6_measure_2 (nI s) (nI i) ν = _ ∧ _) ∨ ∃ q, b_X6_measure_2 _ _ ν = _ ∧ _
    unfold b_X6_measure_2
    rw [E.P]
    by_cases c : i < nP v
    · left
      rw [if_neg (nI_ge c (by omega))]
      simp (disch := omega) only [gck, nI_clamp, nI_1]
      refine ⟨_, rfl, ⟨by omega, rfl, F.si rfl, fun q hq => ?_⟩, c⟩
      by_cases e : q = i
      · rw [e]; exact gi_sii
      · exact (gi_sij e).trans (Z q (by omega))
    · right
      have e : i = nP v := by omega
      subst e
      exact ⟨_, if_pos (nI_le (Nat.le_refl _) (by omega)), F, Z⟩) (by unfold gFuel; omega) (s0 := (nI 0, μ)) ⟨by omega, rfl, Fr.rf μ, fun q hq => absurd hq (Nat.not_lt_zero _)⟩
  obtain ⟨ν2, h2, F2, Z2, L2⟩ := gloop_rel (body := fun t => b_X6_measure_25 (nI s) t.1 t.2) (fun i t => i ≤ nN v ∧ t.1 = nI i ∧ Fr μ t.2 ∧ (∀ q, q < nP v → gi t.2 4 q = -1) ∧ ∀ k, k < i → gi t.2 5 k = nI (ln v k)) (fun r => Fr μ r ∧ (∀ q, q < nP v → gi r 4 q = -1) ∧ CLn v r) (nN v) (fun i t hi hR => by
    obtain ⟨x, ν⟩ := t
    obtain ⟨-, e1, F, Z, L⟩ := hR
    have e1 : x = nI i := e1
    subst e1
    replace F : Fr μ ν := F
    have E := C.fr F
    show (∃ t, b_X6_measure_25 (nI s) (nI i) ν = _ ∧ _) ∨ ∃ q, b_X6_measure_25 _ _ ν = _ ∧ _
    unfold b_X6_measure_25
    rw [E.N]
    by_cases c : i < nN v
    · left
      rw [if_neg (nI_ge c (by omega)), c_lineLength E c, Option.bind_some]
      simp (disch := omega) only [gck, nI_clamp, nI_1]
      refine ⟨_, rfl, ⟨by omega, rfl, F.si rfl, fun q hq => (gi_sik (by decide)).trans (Z q hq), fun k hk => ?_⟩, c⟩
      by_cases e : k = i
      · rw [e]; exact gi_sii
      · exact (gi_sij e).trans (L k (by omega))
    · right
      have e : i = nN v := by omega
      subst e
      exact ⟨_, if_pos (nI_le (Nat.le_refl _) (by omega)), F, Z, L⟩) (by unfold gFuel; omega) (s0 := (nI 0, ν1)) ⟨by omega, rfl, F1, Z1, fun k hk => absurd hk (Nat.not_lt_zero _)⟩
  obtain ⟨I0, c0⟩ := D0_I hs
  obtain ⟨ρ, h3, D, I3, A3, D3, L3, F3⟩ := gloop_rel (body := fun t => b_X6_measure_62 t.1 t.2.1 t.2.2) (fun i t => i ≤ nP v ∧ ∃ c D, t.1 = b2i c ∧ t.2.1 = nI i ∧ DI v s D ∧ (alS v s D ∨ i + 1 ≤ cntB (sB9 v s D) (nP v)) ∧ (c = false → alS v s D) ∧ CD v 4 D t.2.2 ∧ CLn v t.2.2 ∧ Fr μ t.2.2) (fun r => ∃ D, DI v s D ∧ alS v s D ∧ CD v 4 D r ∧ CLn v r ∧ Fr μ r) (nP v) (fun i t hi hR => by
    obtain ⟨x, y, ν⟩ := t
    obtain ⟨-, c, D, e1, e2, I, G, A, H, L, F⟩ := hR
    have e1 : x = b2i c := e1
    have e2 : y = nI i := e2
    subst e1 e2
    replace F : Fr μ ν := F
    have E := C.fr F
    show (∃ t, b_X6_measure_62 (b2i c) (nI i) ν = _ ∧ _) ∨ ∃ q, b_X6_measure_62 _ _ ν = _ ∧ _
    unfold b_X6_measure_62
    rw [E.P]
    by_cases d : i < nP v
    · rw [if_neg (nI_ge d (by omega))]
      cases c with
      | false => exact Or.inr ⟨_, if_pos rfl, D, I, A rfl, H, L, F⟩
      | true =>
        left
        rw [if_neg (by decide)]
        obtain ⟨ρ, g1, g2, g3, g4⟩ := c_pass E I H L
        obtain ⟨a1, a2, a3, a4⟩ := pas_I C.1 I (nN v) (Nat.le_refl _)
        rw [g1, Option.bind_some, nI_1]
        refine ⟨_, rfl, ⟨by omega, _, _, rfl, rfl, a1, pas_gr C.1 I G, fun hf => ?_, g2, g3, F.tr g4⟩, d⟩
        obtain ⟨b1, b2⟩ := a4 hf
        rw [b1]
        exact stl_all C.1 I b2
    · right
      exact ⟨_, if_pos (nI_le (by omega) (by omega)), D, I, cnt_al G (by omega), H, L, F⟩) (by unfold gFuel; omega) (s0 := (b2i true, nI 0, si ν2 4 s 0)) ⟨by omega, true, D0 s, rfl, rfl, I0, Or.inr c0, fun h => (nomatch h), fun q hq => by
        show gi (si ν2 4 s 0) 4 q = oI (uN (fun _ => none) s (some 0) q)
        by_cases e : q = s
        · rw [e, uN_s, gi_sii]; rfl
        · rw [uN_n e, gi_sij e]; exact Z2 q hq, fun k hk => (gi_sik (by decide)).trans (L2 k hk), F2.si rfl⟩
  refine ⟨ρ, D, ?_, I3, A3, D3, L3, F3⟩
  unfold f_X6_measure
  rw [show gloop (fun t => b_X6_measure_2 (nI s) t.1 t.2) gFuel ((0 : Int32), μ) = _ from h1, Option.bind_some, show gloop (fun t => b_X6_measure_25 (nI s) t.1 t.2) gFuel ((0 : Int32), ν1) = _ from h2, Option.bind_some, gck (by omega) (by decide), nI_clamp (by omega), show gloop (fun t => b_X6_measure_62 t.1 t.2.1 t.2.2) gFuel ((1 : Int32), (0 : Int32), si ν2 4 s 0) = _ from h3]
  rfl
end SC

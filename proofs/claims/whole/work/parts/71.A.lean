/-! rounds on both sides; adjust -/
section SO
variable {v : Nat → Nat → Int32} {μ : gM}
theorem i2b_b (b : Bool) : i2b (b2i b) = some b := by cases b <;> rfl
theorem b2i_0 {b : Bool} : (b2i b = 0) ↔ b = false := by cases b <;> decide
theorem c_so (C : CO v μ) {A : Nat → Int64} {B : Int} (hS : GS v μ (nP v + 1)) (hK : GK v μ (nP v) 0) (hA : ∀ p, p < nP v → gl μ 22 p = A p) (hB : 0 ≤ B ∧ B ≤ 150000000000) (H : AI v A B) : ∃ ν, f_X0_settleOnce μ = some ((srd v A (nP v)).1, ν) ∧ ν.1 = μ.1 ∧ (∀ k i, k ≠ 22 → ν.2 k i = μ.2 k i) ∧ ∀ p, p < nP v → gl ν 22 p = (srd v A (nP v)).2 p := by
  have hb := C.1.b
  obtain ⟨⟨x, ν1⟩, h1, e1, F1, L1, S1⟩ := gloop_rel (body := fun t => b_X0_settleOnce_4 t.1 t.2.1 t.2.2) (fun p t => p ≤ nP v ∧ t.1 = b2i (srd v A p).1 ∧ t.2.1 = nI p ∧ t.2.2.1 = μ.1 ∧ (∀ k i, k ≠ 22 → t.2.2.2 k i = μ.2 k i) ∧ ∀ q, q < nP v → gl t.2.2 22 q = (srd v A p).2 q) (fun r => r.1 = b2i (srd v A (nP v)).1 ∧ r.2.1 = μ.1 ∧ (∀ k i, k ≠ 22 → r.2.2 k i = μ.2 k i) ∧ ∀ q, q < nP v → gl r.2 22 q = (srd v A (nP v)).2 q) (nP v) (fun p t hp hR => by
    obtain ⟨x, y, ν⟩ := t
    obtain ⟨-, e1, e2, F, L, S⟩ := hR
    have e1 : x = b2i (srd v A p).1 := e1
    have e2 : y = nI p := e2
    subst e1 e2
    replace F : ν.1 = μ.1 := F
    replace S : ∀ q, q < nP v → gl ν 22 q = (srd v A p).2 q := S
    have D : CO v ν := ⟨C.1, (nv_cg (fun k i _ _ => by rw [F])).trans C.2⟩
    have S2 : GS v ν (nP v + 1) := fun q hq => by
      show ν.1 24 q = _
      rw [F]; exact hS q hq
    have K2 : GK v ν (nP v) 0 := fun q j hj ht hq => by
      show ν.1 25 _ = _ ∧ ν.1 26 _ = _ ∧ ν.1 27 _ = _
      rw [F]; exact hK q j hj ht hq
    show (∃ t, b_X0_settleOnce_4 (b2i (srd v A p).1) (nI p) ν = _ ∧ _) ∨ ∃ r, b_X0_settleOnce_4 _ _ ν = _ ∧ _
    unfold b_X0_settleOnce_4 j_X0_settleOnce_58 j_X0_settleOnce_63
    rw [D.P]
    by_cases c : p < nP v
    · left
      have I := srd_I C.1 hB H p (by omega)
      rw [if_neg (nI_ge c (by omega))]
      simp (disch := omega) only [gck, nI_clamp, nI_1]
      rw [S p c, show gi ν 39 p = v 5 p from D.at 5 p (by decide)]
      have es : srd v A (p + 1) = sst v (srd v A p) p := rfl
      by_cases c1 : (srd v A p).2 p = noH
      · rw [if_pos c1, es, show sst v (srd v A p) p = srd v A p from if_neg (fun w => w.1 c1)]
        exact ⟨_, rfl, ⟨by omega, rfl, rfl, F, L, S⟩, c⟩
      · rw [if_neg c1]
        by_cases c2 : v 5 p = -1
        · rw [if_pos c2, c_wm D S2 K2 S ⟨by omega, by omega⟩ I c ⟨c1, c2⟩, Option.bind_some, es, show sst v (srd v A p) p = _ from if_pos ⟨c1, c2⟩]
          have fin : ∀ b : Bool, b = ((srd v A p).1 || !decide (mnv v (srd v A p).2 p = (srd v A p).2 p)) → ∃ t, some (Sum.inl (b2i b, nI (p + 1), sl ν 22 p (mnv v (srd v A p).2 p))) = (some (Sum.inl t) : Option ((Int32 × Int32 × gM) ⊕ (Int32 × gM))) ∧ (p + 1 ≤ nP v ∧ t.1 = b2i ((srd v A p).1 || !decide (mnv v (srd v A p).2 p = (srd v A p).2 p)) ∧ t.2.1 = nI (p + 1) ∧ t.2.2.1 = μ.1 ∧ (∀ k i, k ≠ 22 → t.2.2.2 k i = μ.2 k i) ∧ ∀ q, q < nP v → gl t.2.2 22 q = uN (srd v A p).2 p (mnv v (srd v A p).2 p) q) ∧ p < nP v := fun b hb => by
            refine ⟨_, rfl, ⟨by omega, by rw [hb], rfl, F, fun k i hk => ?_, fun q hq => ?_⟩, c⟩
            · show (if k = 22 ∧ i = p then _ else ν.2 k i) = _
              rw [if_neg (fun w => hk w.1)]; exact L k i hk
            · show gl (sl ν 22 p (mnv v (srd v A p).2 p)) 22 q = _
              rw [gl_sl]
              by_cases e : q = p
              · rw [if_pos ⟨rfl, e⟩, e, uN_s]
              · rw [if_neg (fun w => e w.2), uN_n e]; exact S q hq
          by_cases d : (srd v A p).1 = false
          · rw [if_pos (b2i_0.mpr d)]
            by_cases g : mnv v (srd v A p).2 p = (srd v A p).2 p
            · rw [if_pos g]
              exact fin false (by rw [d, decide_eq_true g]; rfl)
            · rw [if_neg g]
              exact fin true (by rw [d, decide_eq_false g]; rfl)
          · rw [if_neg (fun w => d (b2i_0.mp w))]
            exact fin true (by
              cases q : (srd v A p).1 with
              | true => rfl
              | false => exact absurd q d)
        · rw [if_neg c2, es, show sst v (srd v A p) p = srd v A p from if_neg (fun w => c2 w.2)]
          exact ⟨_, rfl, ⟨by omega, rfl, rfl, F, L, S⟩, c⟩
    · right
      have e : p = nP v := by omega
      subst e
      rw [if_pos (nI_le (Nat.le_refl _) (by omega))]
      exact ⟨_, rfl, rfl, F, L, S⟩) (by unfold gFuel; omega) (s0 := (b2i false, nI 0, μ)) ⟨by omega, rfl, rfl, rfl, fun _ _ _ => rfl, hA⟩
  have e1 : x = b2i (srd v A (nP v)).1 := e1
  subst e1
  unfold f_X0_settleOnce
  rw [show gloop (fun t => b_X0_settleOnce_4 t.1 t.2.1 t.2.2) gFuel ((0 : Int32), (0 : Int32), μ) = _ from h1, Option.bind_some, i2b_b]
  exact ⟨_, rfl, F1, L1, S1⟩
/-- the model's memory with a network and heights -/
theorem m_mean (M : MO v μ) {A : Nat → Int64} {B : Int} (hA : ∀ p, p < nP v → gl μ 64 p = A p) (hB : 0 ≤ B ∧ B ≤ 200000000000) (H : AI v A B) {p : Nat} (hp : p < nP v) (h : ¬ A p = noH ∧ v 5 p = -1) : f_X8_mean (nI p) μ = some (mnv v A p) := by
  have hb := M.1.b
  have ht := (H.up M.1 hB hp h).1
  have m := mnv_b M.1 hB (H.nb M.1 hp h.1) ht
  have g : gloop (fun t => b_X8_mean_8 (nI p) t.1 t.2.1 t.2.2 μ) gFuel ((0 : Int64), (0 : Int64), (0 : Int32)) = some (wsm v A p (nN v)) := by
    refine gloop_run (fun k => ((wsm v A p k).1, (wsm v A p k).2, nI k)) (nN v) (fun k hk => ?_) ?_ gFuel (by unfold gFuel; omega)
    · show b_X8_mean_8 (nI p) (wsm v A p k).1 (wsm v A p k).2 (nI k) μ = some (Sum.inl ((wsm v A p (k + 1)).1, (wsm v A p (k + 1)).2, nI (k + 1)))
      have ho := brO_lt (p := p) (M.1.g k hk)
      unfold b_X8_mean_8
      rw [m_cN M, Option.bind_some, if_neg (nI_ge hk (by omega)), m_touches M hk (by omega), Option.bind_some, nI_1]
      by_cases t : tT v k p
      · rw [decide_eq_true (p := (nA v).testBit k = true ∧ _) t, if_neg (by decide), m_acr M hk (by omega), Option.bind_some, m_weight M hk, Option.bind_some, m_riseFrom M hk (by omega), Option.bind_some, Option.bind_some]
        simp (disch := omega) only [gck, nI_clamp]
        rw [hA _ ho, show wsm v A p (k + 1) = _ from if_pos t]
        rfl
      · rw [decide_eq_false (p := (nA v).testBit k = true ∧ _) t, if_pos (show b2i false = 0 from rfl), show wsm v A p (k + 1) = wsm v A p k from if_neg t]
    · show b_X8_mean_8 (nI p) _ _ (nI (nN v)) μ = _
      unfold b_X8_mean_8
      rw [m_cN M, Option.bind_some, if_pos (nI_le (Nat.le_refl _) (by omega))]
  unfold f_X8_mean
  rw [g, Option.bind_some, m.2.2.1]; rfl
theorem m_go (M : MO v μ) {A : Nat → Int64} {B : Int} (hA : ∀ p, p < nP v → gl μ 64 p = A p) (hB : 0 ≤ B ∧ B ≤ 150000000000) (H : AI v A B) : ∃ ν, f_X8_goesRound μ = some ((srd v A (nP v)).1, ν) ∧ ν.1 = μ.1 ∧ (∀ k i, k ≠ 64 → ν.2 k i = μ.2 k i) ∧ ∀ p, p < nP v → gl ν 64 p = (srd v A (nP v)).2 p := by
  have hb := M.1.b
  obtain ⟨⟨x, ν1⟩, h1, e1, F1, L1, S1⟩ := gloop_rel (body := fun t => b_X8_goesRound_4 t.1 t.2.1 t.2.2) (fun p t => p ≤ nP v ∧ t.1 = b2i (srd v A p).1 ∧ t.2.1 = nI p ∧ t.2.2.1 = μ.1 ∧ (∀ k i, k ≠ 64 → t.2.2.2 k i = μ.2 k i) ∧ ∀ q, q < nP v → gl t.2.2 64 q = (srd v A p).2 q) (fun r => r.1 = b2i (srd v A (nP v)).1 ∧ r.2.1 = μ.1 ∧ (∀ k i, k ≠ 64 → r.2.2 k i = μ.2 k i) ∧ ∀ q, q < nP v → gl r.2 64 q = (srd v A (nP v)).2 q) (nP v) (fun p t hp hR => by
    obtain ⟨x, y, ν⟩ := t
    obtain ⟨-, e1, e2, F, L, S⟩ := hR
    have e1 : x = b2i (srd v A p).1 := e1
    have e2 : y = nI p := e2
    subst e1 e2
    replace F : ν.1 = μ.1 := F
    replace S : ∀ q, q < nP v → gl ν 64 q = (srd v A p).2 q := S
    have D : MO v ν := M.cg (fun i _ => by rw [F]) (by rw [F])
    show (∃ t, b_X8_goesRound_4 (b2i (srd v A p).1) (nI p) ν = _ ∧ _) ∨ ∃ r, b_X8_goesRound_4 _ _ ν = _ ∧ _
    unfold b_X8_goesRound_4 j_X8_goesRound_62 j_X8_goesRound_67
    rw [m_cP D, Option.bind_some]
    by_cases c : p < nP v
    · left
      have I := srd_I M.1 hB H p (by omega)
      have hg := held_ge M.1 c
      rw [if_neg (nI_ge c (by omega))]
      simp (disch := omega) only [n6, nI_add, gck, nI_clamp, nI_1]
      rw [S p c, show gi ν 61 (6 + p) = v 5 p from D.2.1.2.2.1 p c]
      have es : srd v A (p + 1) = sst v (srd v A p) p := rfl
      by_cases c1 : (srd v A p).2 p = noH
      · rw [if_pos c1, es, show sst v (srd v A p) p = srd v A p from if_neg (fun w => w.1 c1)]
        exact ⟨_, rfl, ⟨by omega, rfl, rfl, F, L, S⟩, c⟩
      · rw [if_neg c1]
        by_cases c2 : v 5 p = -1
        · rw [if_pos (Int32.not_le.mp (fun w => hg.mp w c2)), m_mean D S ⟨by omega, by omega⟩ I c ⟨c1, c2⟩, Option.bind_some, es, show sst v (srd v A p) p = _ from if_pos ⟨c1, c2⟩]
          have fin : ∀ b : Bool, b = ((srd v A p).1 || !decide (mnv v (srd v A p).2 p = (srd v A p).2 p)) → ∃ t, some (Sum.inl (b2i b, nI (p + 1), sl ν 64 p (mnv v (srd v A p).2 p))) = (some (Sum.inl t) : Option ((Int32 × Int32 × gM) ⊕ (Int32 × gM))) ∧ (p + 1 ≤ nP v ∧ t.1 = b2i ((srd v A p).1 || !decide (mnv v (srd v A p).2 p = (srd v A p).2 p)) ∧ t.2.1 = nI (p + 1) ∧ t.2.2.1 = μ.1 ∧ (∀ k i, k ≠ 64 → t.2.2.2 k i = μ.2 k i) ∧ ∀ q, q < nP v → gl t.2.2 64 q = uN (srd v A p).2 p (mnv v (srd v A p).2 p) q) ∧ p < nP v := fun b hb => by
            refine ⟨_, rfl, ⟨by omega, by rw [hb], rfl, F, fun k i hk => ?_, fun q hq => ?_⟩, c⟩
            · show (if k = 64 ∧ i = p then _ else ν.2 k i) = _
              rw [if_neg (fun w => hk w.1)]; exact L k i hk
            · show gl (sl ν 64 p (mnv v (srd v A p).2 p)) 64 q = _
              rw [gl_sl]
              by_cases e : q = p
              · rw [if_pos ⟨rfl, e⟩, e, uN_s]
              · rw [if_neg (fun w => e w.2), uN_n e]; exact S q hq
          by_cases d : (srd v A p).1 = false
          · rw [if_pos (b2i_0.mpr d)]
            by_cases g : mnv v (srd v A p).2 p = (srd v A p).2 p
            · rw [if_pos g]
              exact fin false (by rw [d, decide_eq_true g]; rfl)
            · rw [if_neg g]
              exact fin true (by rw [d, decide_eq_false g]; rfl)
          · rw [if_neg (fun w => d (b2i_0.mp w))]
            exact fin true (by
              cases q : (srd v A p).1 with
              | true => rfl
              | false => exact absurd q d)
        · rw [if_neg (Int32.not_lt.mpr (hg.mpr c2)), es, show sst v (srd v A p) p = srd v A p from if_neg (fun w => c2 w.2)]
          exact ⟨_, rfl, ⟨by omega, rfl, rfl, F, L, S⟩, c⟩
    · right
      have e : p = nP v := by omega
      subst e
      rw [if_pos (nI_le (Nat.le_refl _) (by omega))]
      exact ⟨_, rfl, rfl, F, L, S⟩) (by unfold gFuel; omega) (s0 := (b2i false, nI 0, μ)) ⟨by omega, rfl, rfl, rfl, fun _ _ _ => rfl, hA⟩
  have e1 : x = b2i (srd v A (nP v)).1 := e1
  subst e1
  unfold f_X8_goesRound
  rw [show gloop (fun t => b_X8_goesRound_4 t.1 t.2.1 t.2.2) gFuel ((0 : Int32), (0 : Int32), μ) = _ from h1, Option.bind_some, i2b_b]
  exact ⟨_, rfl, F1, L1, S1⟩
def bN (n : Nat) : Int := 2000000000 + 600000000 * (n : Int)
theorem srd_N (C : CI v) {A : Nat → Int64} {n : Nat} (hn : n ≤ 200) (H : AI v A (bN n)) : AI v (srd v A (nP v)).2 (bN (n + 1)) := by
  have hb := C.b
  refine (srd_I C ⟨?_, ?_⟩ H (nP v) (Nat.le_refl _)).mo ?_ <;> unfold bN <;> omega
theorem c_lp (C : CO v μ) {A0 : Nat → Int64} {r : Nat} (hr : r ≤ 200) (hS : GS v μ (nP v + 1)) (hK : GK v μ (nP v) 0) (hA : ∀ p, p < nP v → gl μ 22 p = A0 p) (H : AI v A0 (bN 0)) : ∃ ν, gloop (fun t => b_X0_settle_35 (nI r) t.1 t.2.1 t.2.2) gFuel (nI 0, b2i true, μ) = some (nI (rrn v r 0 true A0).1, ν) ∧ ν.1 = μ.1 ∧ (∀ k i, k ≠ 22 → ν.2 k i = μ.2 k i) ∧ (∀ p, p < nP v → gl ν 22 p = (rrn v r 0 true A0).2 p) ∧ AI v (rrn v r 0 true A0).2 1000000000000 := by
  have hb := C.1.b
  obtain ⟨⟨x, ν1⟩, h1, e1, F1, L1, S1, I1⟩ := gloop_rel (body := fun t => b_X0_settle_35 (nI r) t.1 t.2.1 t.2.2) (fun i t => i ≤ r ∧ ∃ c A, t.1 = nI i ∧ t.2.1 = b2i c ∧ t.2.2.1 = μ.1 ∧ (∀ k j, k ≠ 22 → t.2.2.2 k j = μ.2 k j) ∧ (∀ q, q < nP v → gl t.2.2 22 q = A q) ∧ AI v A (bN i) ∧ rrn v (r - i) i c A = rrn v r 0 true A0) (fun q => q.1 = nI (rrn v r 0 true A0).1 ∧ q.2.1 = μ.1 ∧ (∀ k j, k ≠ 22 → q.2.2 k j = μ.2 k j) ∧ (∀ p, p < nP v → gl q.2 22 p = (rrn v r 0 true A0).2 p) ∧ AI v (rrn v r 0 true A0).2 1000000000000) r (fun i t hi hR => by
    obtain ⟨x, y, ν⟩ := t
    obtain ⟨-, c, A, e1, e2, F, L, S, I, E⟩ := hR
    have e1 : x = nI i := e1
    have e2 : y = b2i c := e2
    subst e1 e2
    replace F : ν.1 = μ.1 := F
    replace S : ∀ q, q < nP v → gl ν 22 q = A q := S
    have I3 : AI v A 1000000000000 := I.mo (by unfold bN; omega)
    show (∃ t, b_X0_settle_35 (nI r) (nI i) (b2i c) ν = _ ∧ _) ∨ ∃ q, b_X0_settle_35 _ _ _ ν = _ ∧ _
    unfold b_X0_settle_35
    by_cases d : i < r
    · rw [if_neg (nI_ge d (by omega))]
      cases c with
      | false =>
        right
        rw [show r - i = (r - i - 1) + 1 by omega] at E
        have E2 : (i, A) = rrn v r 0 true A0 := E
        refine ⟨_, if_pos rfl, ?_, F, L, ?_, ?_⟩
        · rw [← E2]
        · rw [← E2]; exact S
        · rw [← E2]; exact I3
      | true =>
        left
        rw [if_neg (by decide)]
        have D : CO v ν := ⟨C.1, (nv_cg (fun k i _ _ => by rw [F])).trans C.2⟩
        have S2 : GS v ν (nP v + 1) := fun q hq => by
          show ν.1 24 q = _
          rw [F]; exact hS q hq
        have K2 : GK v ν (nP v) 0 := fun q j hj ht hq => by
          show ν.1 25 _ = _ ∧ ν.1 26 _ = _ ∧ ν.1 27 _ = _
          rw [F]; exact hK q j hj ht hq
        obtain ⟨ν2, g1, g2, g3, g4⟩ := c_so D S2 K2 S ⟨by unfold bN; omega, by unfold bN; omega⟩ I
        rw [g1, Option.bind_some, nI_1]
        refine ⟨_, rfl, ⟨by omega, (srd v A (nP v)).1, (srd v A (nP v)).2, rfl, rfl, g2.trans F, fun k j hk => (g3 k j hk).trans (L k j hk), g4, srd_N C.1 (by omega) I, ?_⟩, d⟩
        rw [show r - i = (r - (i + 1)) + 1 by omega] at E
        exact E
    · right
      have e : i = r := by omega
      subst e
      rw [Nat.sub_self] at E
      have E2 : (i, A) = rrn v i 0 true A0 := E
      refine ⟨_, if_pos (nI_le (Nat.le_refl _) (by omega)), ?_, F, L, ?_, ?_⟩
      · rw [← E2]
      · rw [← E2]; exact S
      · rw [← E2]; exact I3) (by unfold gFuel; omega) (s0 := (nI 0, b2i true, μ)) ⟨by omega, true, A0, rfl, rfl, rfl, fun _ _ _ => rfl, hA, H, rfl⟩
  have e1 : x = nI (rrn v r 0 true A0).1 := e1
  subst e1
  exact ⟨ν1, h1, F1, L1, S1, I1⟩
theorem m_lp (M : MO v μ) {A0 : Nat → Int64} {r : Nat} (hr : r ≤ 200) (hA : ∀ p, p < nP v → gl μ 64 p = A0 p) (H : AI v A0 (bN 0)) : ∃ ν, gloop (fun t => b_X8_adjust_66 (nI r) t.1 t.2.1 t.2.2) gFuel (nI 0, b2i true, μ) = some (nI (rrn v r 0 true A0).1, ν) ∧ ν.1 = μ.1 ∧ (∀ k i, k ≠ 64 → ν.2 k i = μ.2 k i) ∧ (∀ p, p < nP v → gl ν 64 p = (rrn v r 0 true A0).2 p) := by
  have hb := M.1.b
  obtain ⟨⟨x, ν1⟩, h1, e1, F1, L1, S1⟩ := gloop_rel (body := fun t => b_X8_adjust_66 (nI r) t.1 t.2.1 t.2.2) (fun i t => i ≤ r ∧ ∃ c A, t.1 = nI i ∧ t.2.1 = b2i c ∧ t.2.2.1 = μ.1 ∧ (∀ k j, k ≠ 64 → t.2.2.2 k j = μ.2 k j) ∧ (∀ q, q < nP v → gl t.2.2 64 q = A q) ∧ AI v A (bN i) ∧ rrn v (r - i) i c A = rrn v r 0 true A0) (fun q => q.1 = nI (rrn v r 0 true A0).1 ∧ q.2.1 = μ.1 ∧ (∀ k j, k ≠ 64 → q.2.2 k j = μ.2 k j) ∧ (∀ p, p < nP v → gl q.2 64 p = (rrn v r 0 true A0).2 p)) r (fun i t hi hR => by
    obtain ⟨x, y, ν⟩ := t
    obtain ⟨-, c, A, e1, e2, F, L, S, I, E⟩ := hR
    have e1 : x = nI i := e1
    have e2 : y = b2i c := e2
    subst e1 e2
    replace F : ν.1 = μ.1 := F
    replace S : ∀ q, q < nP v → gl ν 64 q = A q := S
    show (∃ t, b_X8_adjust_66 (nI r) (nI i) (b2i c) ν = _ ∧ _) ∨ ∃ q, b_X8_adjust_66 _ _ _ ν = _ ∧ _
    unfold b_X8_adjust_66
    cases c with
    | false =>
      right
      have E2 : (i, A) = rrn v r 0 true A0 := by
        rw [← E]
        cases r - i <;> rfl
      refine ⟨_, if_pos rfl, ?_, F, L, ?_⟩
      · rw [← E2]
      · rw [← E2]; exact S
    | true =>
      rw [if_neg (by decide)]
      by_cases d : i < r
      · left
        rw [if_neg (nI_ge d (by omega))]
        have D : MO v ν := M.cg (fun i _ => by rw [F]) (by rw [F])
        obtain ⟨ν2, g1, g2, g3, g4⟩ := m_go D S ⟨by unfold bN; omega, by unfold bN; omega⟩ I
        rw [g1, Option.bind_some, nI_1]
        refine ⟨_, rfl, ⟨by omega, (srd v A (nP v)).1, (srd v A (nP v)).2, rfl, rfl, g2.trans F, fun k j hk => (g3 k j hk).trans (L k j hk), g4, srd_N M.1 (by omega) I, ?_⟩, d⟩
        rw [show r - i = (r - (i + 1)) + 1 by omega] at E
        exact E
      · right
        have e : i = r := by omega
        subst e
        rw [Nat.sub_self] at E
        have E2 : (i, A) = rrn v i 0 true A0 := E
        refine ⟨_, if_pos (nI_le (Nat.le_refl _) (by omega)), ?_, F, L, ?_⟩
        · rw [← E2]
        · rw [← E2]; exact S) (by unfold gFuel; omega) (s0 := (nI 0, b2i true, μ)) ⟨by omega, true, A0, rfl, rfl, rfl, fun _ _ _ => rfl, hA, H, rfl⟩
  have e1 : x = nI (rrn v r 0 true A0).1 := e1
  subst e1
  exact ⟨ν1, h1, F1, L1, S1⟩
theorem pv_AI (C : CI v) : AI v (pv v) (bN 0) := fun p hp => ⟨pv_rch C p, by
  by_cases c : pv v p = noH
  · exact Or.inl c
  · have := pv_b C c
    exact Or.inr (by unfold bN; omega)⟩
theorem c_settle (C : CO v μ) {r : Nat} (hr : r ≤ 200) : ∃ ν, f_X0_settle (nI r) μ = some (nI (rrn v r 0 true (pv v)).1, ν) ∧ gi ν 20 2 = 1 ∧ (∀ k i, rI k i = true → k ≠ 20 → ν.1 k i = μ.1 k i) ∧ (∀ k i, rL k = true → k ≠ 22 → ν.2 k i = μ.2 k i) ∧ (∀ p, p < nP v → gl ν 22 p = (rrn v r 0 true (pv v)).2 p) ∧ AI v (rrn v r 0 true (pv v)).2 1000000000000 := by
  have hb := C.1.b
  have z0 : (0 : Int32).toNatClampNeg = 0 := by decide
  have z16 : (16 : Int32).toNatClampNeg = 16 := by decide
  obtain ⟨ν1, e1, F1, P1⟩ := c_carry C
  have C1 := C.fr F1
  have C2 : CO v (si (cpl ν1 21 22 0 0 16) 20 2 (1 : Int32)) := ⟨C.1, (nv_cg (fun k i h1 h2 => by
    show (if k = 20 ∧ i = 2 then _ else ν1.1 k i) = ν1.1 k i
    rw [if_neg (by omega)])).trans C1.2⟩
  obtain ⟨ν2, e2, F2, L2, S2, K2⟩ := c_gather C2
  have C3 := C2.fr F2
  have hA : ∀ p, p < nP v → gl ν2 22 p = pv v p := fun p hp => by
    show ν2.2 22 p = _
    rw [L2]
    show (if (22 : Nat) = 22 ∧ 0 ≤ p ∧ p < 0 + 16 then ν1.2 21 (0 + (p - 0)) else ν1.2 22 p) = _
    rw [if_pos ⟨rfl, by omega, by omega⟩, show 0 + (p - 0) = p by omega]
    exact P1 p hp
  obtain ⟨ν3, e3, F3, L3, S3, I3⟩ := c_lp C3 hr S2 K2 hA (pv_AI C.1)
  refine ⟨ν3, ?_, ?_, fun k i hr hk => ?_, fun k i hr hk => ?_, S3, I3⟩
  · unfold f_X0_settle
    rw [e1, Option.bind_some, gckb (by decide), gckb (by decide), gckb (by decide), gckb (by decide), gckb (by decide), z0, z16, e2, Option.bind_some, show gloop (fun t => b_X0_settle_35 (nI r) t.1 t.2.1 t.2.2) gFuel ((0 : Int32), (1 : Int32), ν2) = _ from e3]
    rfl
  · show ν3.1 20 2 = 1
    rw [F3, F2.1 20 2 rfl]; rfl
  · rw [F3, F2.1 k i hr]
    show (if k = 20 ∧ i = 2 then _ else ν1.1 k i) = _
    rw [if_neg (fun w => hk w.1)]; exact F1.1 k i hr
  · rw [L3 k i hk, L2]
    show (if k = 22 ∧ _ then _ else ν1.2 k i) = _
    rw [if_neg (fun w => hk w.1)]; exact F1.2 k i hr
end SO
section SJ
variable {μ : gM}
theorem m_copy {ν : gM} : ∃ ρ, gloop (fun t => b_X8_adjust_29 (nI 0) t.1 t.2) gFuel (nI 0, ν) = some ρ ∧ FrL 64 (cpL (ν.2 64) (ν.2 76) 0 16) ν ρ :=
  gcpL (body := fun t => b_X8_adjust_29 (nI 0) t.1 t.2) (μ := ν) 64 0 16 (fun i => 0 + i) (fun i => ν.2 76 i) (fun i => cpL (ν.2 64) (ν.2 76) 0 i) (fun j => cpL_0) (fun i j _ => cpL_s) (fun i ρ hi F => by
    show b_X8_adjust_29 (nI 0) (nI (0 + i)) ρ = _
    have h6 : gl ρ 76 i = ν.2 76 i := F.2.1 76 i (by decide)
    unfold b_X8_adjust_29
    rw [Nat.zero_add, if_neg (ge16 hi)]
    simp (disch := omega) only [gck, nI_clamp, nI_1]
    rw [h6]) (fun ρ F => by
    show b_X8_adjust_29 (nI 0) (nI (0 + 16)) ρ = _
    unfold b_X8_adjust_29
    rw [if_pos (by decide)]) (by unfold gFuel; omega)
theorem sim_59 (s1 : Int32) (R : Rel μ) : simOK μ (f_case_59 s1 μ) := by
  have hb := R.1.b
  have h1 : (1 : Int32).toInt = 1 := by decide
  have h2 : (200 : Int32).toInt = 200 := by decide
  by_cases hx : inR 1 200 s1
  · obtain ⟨r, hr, er⟩ : ∃ r, r ≤ 200 ∧ s1 = nI r := by
      refine ⟨s1.toInt.toNat, by omega, Int32.toInt_inj.mp ?_⟩
      rw [nI_toInt (by omega)]; omega
    obtain ⟨n, o, h8, h8o, hn, hm, ho, hR⟩ := R.2.2.2.2.2.2
    obtain ⟨μ1, e1, kp, g0, f1, f2⟩ := c_keep hn ho h8 h8o R.hm.1 (6 : Int32) (0 : Int32) (0 : Int32)
    have C1 : CO (nv 34 μ) μ1 := ⟨R.1, nv_keep f1⟩
    obtain ⟨μ3, e2, z3, f3, f4, S3, I3⟩ := c_settle C1 hr
    have fa : ∀ k i, rI k i = true → k ≠ 20 → k < 28 ∨ 32 < k → μ3.1 k i = μ.1 k i := fun k i a b c => (f3 k i a b).trans (f1 k i b c)
    have M3 : MO (nv 34 μ) (si μ3 60 6 0) := R.mo.cg (fun i _ => (si1 (K := 60) (by decide)).trans (fa 61 i rfl (by decide) (by decide))) (funext fun i => (si1 (K := 60) (by decide)).trans (fa 66 i rfl (by decide) (by decide)))
    have h5 : gi (si μ3 60 6 0) 60 5 = nI n := (gi_sij (by decide)).trans ((fa 60 5 rfl (by decide) (by decide)).trans hm)
    obtain ⟨ν1, e3, mr, r1, r2⟩ := m_remember h5 h8
    have s3 : ∀ k i, k ≠ 60 → (si μ3 60 6 0).1 k i = μ3.1 k i := fun k i hk => si1 hk
    have M4 : MO (nv 34 μ) ν1 := M3.cg (fun i _ => r1 61 i (by decide) (Or.inl (by decide))) (funext fun i => r1 66 i (by decide) (Or.inl (by decide)))
    obtain ⟨ν2, e4, F2, P2⟩ := m_lay M4
    obtain ⟨ν3, e5, G3⟩ := m_copy (ν := ν2)
    have x29 : ∀ (x : Int32) y ν, b_X8_adjust_29 x y ν = b_X8_adjust_29 (nI 0) y ν := fun _ _ _ => rfl
    have M5 : MO (nv 34 μ) (si ν3 61 702 1) := (M4.fr F2.1).cg (fun i hi => (show gi (si ν3 61 702 1) 61 i = _ from (gi_sij (by omega)).trans (by show ν3.1 61 i = _; rw [G3.1]))) (funext fun i => (si1 (by decide)).trans (by rw [G3.1]))
    have A5 : ∀ p, p < nP (nv 34 μ) → gl (si ν3 61 702 1) 64 p = pv (nv 34 μ) p := fun p hp => by
      show ν3.2 64 p = _
      have q := G3.2.2 (0 + p)
      rw [cpL_in (by omega), Nat.zero_add] at q
      rw [q]; exact P2 p hp
    obtain ⟨ν4, e6, F4, L4, S4⟩ := m_lp M5 hr A5 (pv_AI R.1)
    have k61 : ∀ k i, rI k i = true → k ≠ 61 → ν4.1 k i = ν1.1 k i := fun k i hr hk => by
      rw [F4, si1 hk, G3.1]; exact F2.1.1 k i hr
    have l64 : ∀ k i, rL k = true → k ≠ 64 → ν4.2 k i = ν1.2 k i := fun k i hr hk => by
      rw [L4 k i hk]
      show ν3.2 k i = _
      rw [G3.2.1 k i hk]; exact F2.1.2 k i hr
    have nv4 : nv 34 ν4 = nv 34 μ := nv_cg (fun k i h1 h2 => by
      have hr : rI k i = true := by
        have : k = 34 ∨ k = 35 ∨ k = 36 ∨ k = 37 ∨ k = 38 ∨ k = 39 ∨ k = 40 ∨ k = 41 ∨ k = 42 ∨ k = 43 ∨ k = 44 ∨ k = 45 ∨ k = 46 := by omega
        rcases this with h | h | h | h | h | h | h | h | h | h | h | h | h <;> subst h <;> rfl
      rw [k61 k i hr (by omega), r1 k i (by omega) (by omega), s3 k i (by omega), fa k i hr (by omega) (by omega)])
    have all : ∀ k i, rI k i = true → k ≠ 61 → k ≠ 63 → k ≠ 20 → k < 28 ∨ 32 < k → (k ≠ 60 ∨ (i ≠ 5 ∧ i ≠ 6)) → ν4.1 k i = μ.1 k i := fun k i hr a b c d e => by
      rw [k61 k i hr a, r1 k i b (by omega)]
      have : (si μ3 60 6 0).1 k i = μ3.1 k i := by
        show (if k = 60 ∧ i = 6 then _ else μ3.1 k i) = _
        rw [if_neg (by omega)]
      rw [this]; exact fa k i hr c d
    have d61 : ∀ i, i < 702 → ν4.1 61 i = μ.1 61 i := fun i hi => by
      rw [F4]
      show gi (si ν3 61 702 1) 61 i = _
      rw [gi_sij (by omega)]
      show ν3.1 61 i = _
      rw [G3.1, F2.1.1 61 i rfl, r1 61 i (by decide) (Or.inl (by decide)), s3 61 i (by decide), fa 61 i rfl (by decide) (by decide)]
    have hist : ∀ k, (∀ i, rI k i = true) → 28 ≤ k → k < 33 → ν4.1 k = μ1.1 k := fun k hr a b => funext fun i => by
      rw [k61 k i (hr i) (by omega), r1 k i (by omega) (by omega), s3 k i (by omega), f3 k i (hr i) (by omega)]
    have mr2 : MRx μ ν4 n := by
      obtain ⟨a, b, c, d, e⟩ := mr
      refine ⟨(k61 60 5 rfl (by decide)).trans a, fun j i hj hi => ?_, fun i hi => ?_, fun j i hj hi => ?_, fun i hi => ?_⟩
      · rw [k61 63 _ rfl (by decide), b j i hj hi, s3 63 _ (by decide), fa 63 _ rfl (by decide) (by decide)]
      · rw [k61 63 _ rfl (by decide), c i hi, s3 61 _ (by decide), fa 61 _ rfl (by decide) (by decide)]
      · rw [l64 65 _ rfl (by decide), d j i hj hi]
        show μ3.2 65 _ = _
        rw [f4 65 _ rfl (by decide), f2 65 _ (by decide)]
      · rw [l64 65 _ rfl (by decide), e i hi]
        show μ3.2 64 _ = _
        rw [f4 64 _ rfl (by decide), f2 64 _ (by decide)]
    have hp : HP (nv 34 μ) ν4 := push h8 h8o R.1 R.2.1 R.hm hR kp mr2 (hist 28 (fun _ => rfl) (by decide) (by decide)) (hist 29 (fun _ => rfl) (by decide) (by decide)) (hist 30 (fun _ => rfl) (by decide) (by decide)) (hist 31 (fun _ => rfl) (by decide) (by decide)) (hist 32 (fun _ => rfl) (by decide) (by decide)) (funext fun i => by
      rw [l64 33 i rfl (by decide), r2 33 i (by decide)]
      show μ3.2 33 i = _
      exact f4 33 i rfl (by decide)) (Or.inr (Or.inr (Or.inr (Or.inr (Or.inr (Or.inr ⟨rfl, eqN.rf _⟩))))))
    have R4 : Rel ν4 := by
      unfold Rel RelF
      rw [nv4]
      refine ⟨R.1, (R.mo.cg (ν := ν4) d61 (funext fun i => all 66 i rfl (by decide) (by decide) (by decide) (by decide) (Or.inl (by decide)))).2.1, ?_, ?_, ?_, ?_, hp⟩
      · rw [show ν4.1 66 = μ.1 66 from funext fun i => all 66 i rfl (by decide) (by decide) (by decide) (by decide) (Or.inl (by decide))]
        exact R.2.2.1
      · have z4 : ν4.1 20 2 = 1 := by
          rw [k61 20 2 rfl (by decide), r1 20 2 (by decide) (by decide), s3 20 2 (by decide)]; exact z3
        have a4 : ∀ p, p < nP (nv 34 μ) → ν4.2 22 p = (rrn (nv 34 μ) r 0 true (pv (nv 34 μ))).2 p := fun p hp => by
          rw [l64 22 p rfl (by decide), r2 22 p (by decide)]; exact S3 p hp
        refine ⟨Or.inr z4, ?_, fun _ p hp => ?_⟩
        · rw [z4, F4]; exact gi_sii
        · rw [a4 p hp]
          exact ⟨S4 p hp, (I3 p hp).1, (I3 p hp).2⟩
      · rw [all 0 7 rfl (by decide) (by decide) (by decide) (by decide) (by decide), all 60 18 rfl (by decide) (by decide) (by decide) (by decide) (by decide)]
        exact R.2.2.2.2.1
      · rw [show ν4.1 2 = μ.1 2 from funext fun i => all 2 i rfl (by decide) (by decide) (by decide) (by decide) (Or.inl (by decide)), show ν4.1 68 = μ.1 68 from funext fun i => all 68 i rfl (by decide) (by decide) (by decide) (by decide) (Or.inl (by decide)), all 1 1 rfl (by decide) (by decide) (by decide) (by decide) (by decide), all 60 10 rfl (by decide) (by decide) (by decide) (by decide) (by decide)]
        exact R.2.2.2.2.2.1
    refine caseW (fC := f_X7_adjust s1 μ) (fM := f_X8_adjust s1) (w := nI (rrn (nv 34 μ) r 0 true (pv (nv 34 μ))).1) (μc := μ3) ?_ ?_ R4
    · unfold f_X7_adjust
      rw [if_neg (show ¬ s1 < 1 by rw [Int32.lt_iff_toInt_lt, h1]; omega), if_pos (show s1 ≤ 200 by rw [Int32.le_iff_toInt_le, h2]; omega), e1, Option.bind_some, er, e2]; rfl
    · unfold f_X8_adjust
      rw [rg_d, h1, h2, decide_eq_true hx, Option.bind_some]; simp only [bT, if_false]
      rw [e3, Option.bind_some, e4, Option.bind_some]
      simp only [x29]
      rw [show gloop (fun t => b_X8_adjust_29 (nI 0) t.1 t.2) gFuel ((0 : Int32), ν2) = _ from e5, Option.bind_some, show (702 : Int32) = nI 702 from rfl, gck (by decide) (by decide), nI_clamp (by decide), er, show gloop (fun t => b_X8_adjust_66 (nI r) t.1 t.2.1 t.2.2) gFuel ((0 : Int32), (1 : Int32), si ν3 61 702 1) = _ from e6]
      rfl
  · refine caseW (fC := f_X7_adjust s1 μ) (fM := f_X8_adjust s1) (w := -2) (μc := μ) (ν := si μ 60 6 0) ?_ ?_ (R.fr (si60 0))
    · unfold f_X7_adjust
      by_cases c : s1 < 1
      · rw [if_pos c]
      · rw [if_neg c, if_neg (show ¬ s1 ≤ 200 by
          rw [Int32.lt_iff_toInt_lt, h1] at c
          rw [Int32.le_iff_toInt_le, h2]; omega)]
    · unfold f_X8_adjust
      rw [rg_d, h1, h2, decide_eq_false hx]; rfl
end SJ

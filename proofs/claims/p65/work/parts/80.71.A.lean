section SO
variable {v : Nat → Nat → Int32} {μ : gM}
/-! rounds on both sides; adjust -/
theorem i2b_b (b : Bool) : i2b (b2i b) = some b := by cases b <;> rfl
theorem b2i_0 {b : Bool} : (b2i b = 0) ↔ b = false := by cases b <;> decide
theorem c_so (C : CO v μ) {A : Nat → Int64} {B : Int} (hS : GS v μ (nP v + 1)) (hK : GK v μ (nP v) 0) (hA : ∀ p, p < nP v → gl μ 22 p = A p) (hB9 : 0 ≤ B ∧ B ≤ 150000000000) (H : AI v A B) : ∃ ν, f_X0_settleOnce μ = some ((srd v A (nP v)).1, ν) ∧ ν.1 = μ.1 ∧ (∀ k i, k ≠ 22 → ν.2 k i = μ.2 k i) ∧ ∀ p, p < nP v → gl ν 22 p = (srd v A (nP v)).2 p := by
  have hb := C.1.b
  obtain ⟨⟨x, ν1⟩, h1, e1, F1, L1, S1⟩ := gloop_rel (body := fun t => b_X0_settleOnce_4 t.1 t.2.1 t.2.2) (fun p t => p ≤ nP v ∧ t.1 = b2i (srd v A p).1 ∧ t.2.1 = nI p ∧ t.2.2.1 = μ.1 ∧ (∀ k i, k ≠ 22 → t.2.2.2 k i = μ.2 k i) ∧ ∀ q, q < nP v → gl t.2.2 22 q = (srd v A p).2 q) (fun r => r.1 = b2i (srd v A (nP v)).1 ∧ r.2.1 = μ.1 ∧ (∀ k i, k ≠ 22 → r.2.2 k i = μ.2 k i) ∧ ∀ q, q < nP v → gl r.2 22 q = (srd v A (nP v)).2 q) (nP v) (fun p t hp hR => by
    obtain ⟨x, y, ν⟩ := t
    obtain ⟨-, e1, e2, F, L, S⟩ := hR
    have e1 : x = b2i (srd v A p).1 := e1
    have e2 : y = nI p := e2
    subst e1 e2
    replace F : ν.1 = μ.1 := F
    replace S : ∀ q, q < nP v → gl ν 22 q = (srd v A p).2 q := S
    have D : CO v ν := ⟨C.1, (nv_cg (fun k i _ _ => by rw [F])).trans C.2⟩
    have S2 : GS v ν (nP v + 1) := fun q hq => by
      show ν.1 24 q = _
      rw [F]; exact hS q hq
    have K2 : GK v ν (nP v) 0 := fun q j hj ht hq => by
      show ν.1 25 _ = _ ∧ ν.1 26 _ = _ ∧ ν.1 27 _ = _
      rw [F]; exact hK q j hj ht hq
    show (∃ t, b_X0_settleOnce_4 (b2i (srd v A p).1) (nI p) ν = _ ∧ _) ∨ ∃ r, b_X0_settleOnce_4 _ _ ν = _ ∧ _
    unfold b_X0_settleOnce_4 j_X0_settleOnce_58 j_X0_settleOnce_63
    rw [D.P]
    by_cases c : p < nP v
    · left
      have I := srd_I C.1 hB9 H p (by omega)
      rw [if_neg (nI_ge c (by omega))]
      simp (disch := omega) only [gck, nI_clamp, nI_1]
      rw [S p c, show gi ν 39 p = v 5 p from D.at 5 p (by decide)]
      have es : srd v A (p + 1) = sst v (srd v A p) p := rfl
      by_cases c1 : (srd v A p).2 p = noH
      · rw [if_pos c1, es, show sst v (srd v A p) p = srd v A p from if_neg (fun w => w.1 c1)]
        exact ⟨_, rfl, ⟨by omega, rfl, rfl, F, L, S⟩, c⟩
      · rw [if_neg c1]
        by_cases c2 : v 5 p = -1
        · rw [if_pos c2, c_wm D S2 K2 S ⟨by omega, by omega⟩ I c ⟨c1, c2⟩, Option.bind_some, es, show sst v (srd v A p) p = _ from if_pos ⟨c1, c2⟩]
          have fin : ∀ b : Bool, b = ((srd v A p).1 || !decide (mnv v (srd v A p).2 p = (srd v A p).2 p)) → ∃ t, some (Sum.inl (b2i b, nI (p + 1), sl ν 22 p (mnv v (srd v A p).2 p))) = (some (Sum.inl t) : Option ((Int32 × Int32 × gM) ⊕ (Int32 × gM))) ∧ (p + 1 ≤ nP v ∧ t.1 = b2i ((srd v A p).1 || !decide (mnv v (srd v A p).2 p = (srd v A p).2 p)) ∧ t.2.1 = nI (p + 1) ∧ t.2.2.1 = μ.1 ∧ (∀ k i, k ≠ 22 → t.2.2.2 k i = μ.2 k i) ∧ ∀ q, q < nP v → gl t.2.2 22 q = uN (srd v A p).2 p (mnv v (srd v A p).2 p) q) ∧ p < nP v := fun b hb => by
            refine ⟨_, rfl, ⟨by omega, by rw [hb], rfl, F, fun k i hk => ?_, fun q hq => ?_⟩, c⟩
            · show (if k = 22 ∧ i = p then _ else ν.2 k i) = _
              rw [if_neg (fun w => hk w.1)]; exact L k i hk
            · show gl (sl ν 22 p (mnv v (srd v A p).2 p)) 22 q = _
              rw [gl_sl]
              by_cases e : q = p
              · rw [if_pos ⟨rfl, e⟩, e, uN_s]
              · rw [if_neg (fun w => e w.2), uN_n e]; exact S q hq
          by_cases d : (srd v A p).1 = false
          · rw [if_pos (b2i_0.mpr d)]
            by_cases g : mnv v (srd v A p).2 p = (srd v A p).2 p
            · rw [if_pos g]
              exact fin false (by rw [d, decide_eq_true g]; rfl)
            · rw [if_neg g]
              exact fin true (by rw [d, decide_eq_false g]; rfl)
          · rw [if_neg (fun w => d (b2i_0.mp w))]
            exact fin true (by
              cases q : (srd v A p).1 with
              | true => rfl
              | false => exact absurd q d)
        · rw [if_neg c2, es, show sst v (srd v A p) p = srd v A p from if_neg (fun w => c2 w.2)]
          exact ⟨_, rfl, ⟨by omega, rfl, rfl, F, L, S⟩, c⟩
    · right
      have e : p = nP v := by omega
      subst e
      rw [if_pos (nI_le (Nat.le_refl _) (by omega))]
      exact ⟨_, rfl, rfl, F, L, S⟩) (by unfold gFuel; omega) (s0 := (b2i false, nI 0, μ)) ⟨by omega, rfl, rfl, rfl, fun _ _ _ => rfl, hA⟩
  have e1 : x = b2i (srd v A (nP v)).1 := e1
  subst e1
  unfold f_X0_settleOnce
  rw [show gloop (fun t => b_X0_settleOnce_4 t.1 t.2.1 t.2.2) gFuel ((0 : Int32), (0 : Int32), μ) = _ from h1, Option.bind_some, i2b_b]
  exact ⟨_, rfl, F1, L1, S1⟩
def bN (n : Nat) : Int := 2000000000 + 600000000 * (n : Int)
theorem srd_N (C : CI v) {A : Nat → Int64} {n : Nat} (hn : n ≤ 200) (H : AI v A (bN n)) : AI v (srd v A (nP v)).2 (bN (n + 1)) := by
  have hb := C.b
  refine (srd_I C ⟨?_, ?_⟩ H (nP v) (Nat.le_refl _)).mo ?_ <;> unfold bN <;> omega
theorem c_lp (C : CO v μ) {A0 : Nat → Int64} {r : Nat} (hr : r ≤ 200) (hS : GS v μ (nP v + 1)) (hK : GK v μ (nP v) 0) (hA : ∀ p, p < nP v → gl μ 22 p = A0 p) (H : AI v A0 (bN 0)) : ∃ ν, gloop (fun t => b_X0_settle_35 (nI r) t.1 t.2.1 t.2.2) gFuel (nI 0, b2i true, μ) = some (nI (rrn v r 0 true A0).1, ν) ∧ ν.1 = μ.1 ∧ (∀ k i, k ≠ 22 → ν.2 k i = μ.2 k i) ∧ (∀ p, p < nP v → gl ν 22 p = (rrn v r 0 true A0).2 p) ∧ AI v (rrn v r 0 true A0).2 1000000000000 := by
  have hb := C.1.b
  obtain ⟨⟨x, ν1⟩, h1, e1, F1, L1, S1, I1⟩ := gloop_rel (body := fun t => b_X0_settle_35 (nI r) t.1 t.2.1 t.2.2) (fun i t => i ≤ r ∧ ∃ c A, t.1 = nI i ∧ t.2.1 = b2i c ∧ t.2.2.1 = μ.1 ∧ (∀ k j, k ≠ 22 → t.2.2.2 k j = μ.2 k j) ∧ (∀ q, q < nP v → gl t.2.2 22 q = A q) ∧ AI v A (bN i) ∧ rrn v (r - i) i c A = rrn v r 0 true A0) (fun q => q.1 = nI (rrn v r 0 true A0).1 ∧ q.2.1 = μ.1 ∧ (∀ k j, k ≠ 22 → q.2.2 k j = μ.2 k j) ∧ (∀ p, p < nP v → gl q.2 22 p = (rrn v r 0 true A0).2 p) ∧ AI v (rrn v r 0 true A0).2 1000000000000) r (fun i t hi hR => by
    obtain ⟨x, y, ν⟩ := t
    obtain ⟨-, c, A, e1, e2, F, L, S, I, E⟩ := hR
    have e1 : x = nI i := e1
    have e2 : y = b2i c := e2
    subst e1 e2
    replace F : ν.1 = μ.1 := F
    replace S : ∀ q, q < nP v → gl ν 22 q = A q := S
    have I3 : AI v A 1000000000000 := I.mo (by unfold bN; omega)
    show (∃ t, b_X0_settle_35 (nI r) (nI i) (b2i c) ν = _ ∧ _) ∨ ∃ q, b_X0_settle_35 _ _ _ ν = _ ∧ _
    unfold b_X0_settle_35
    by_cases d : i < r
    · rw [if_neg (nI_ge d (by omega))]
      cases c with
      | false =>
        right
        rw [show r - i = (r - i - 1) + 1 by omega] at E
        have E2 : (i, A) = rrn v r 0 true A0 := E
        refine ⟨_, if_pos rfl, ?_, F, L, ?_, ?_⟩
        · rw [← E2]
        · rw [← E2]; exact S
        · rw [← E2]; exact I3
      | true =>
        left
        rw [if_neg (by decide)]
        have D : CO v ν := ⟨C.1, (nv_cg (fun k i _ _ => by rw [F])).trans C.2⟩
        have S2 : GS v ν (nP v + 1) := fun q hq => by
          show ν.1 24 q = _
          rw [F]; exact hS q hq
        have K2 : GK v ν (nP v) 0 := fun q j hj ht hq => by
          show ν.1 25 _ = _ ∧ ν.1 26 _ = _ ∧ ν.1 27 _ = _
          rw [F]; exact hK q j hj ht hq
        obtain ⟨ν2, g1, g2, g3, g4⟩ := c_so D S2 K2 S ⟨by unfold bN; omega, by unfold bN; omega⟩ I
        rw [g1, Option.bind_some, nI_1]
        refine ⟨_, rfl, ⟨by omega, (srd v A (nP v)).1, (srd v A (nP v)).2, rfl, rfl, g2.trans F, fun k j hk => (g3 k j hk).trans (L k j hk), g4, srd_N C.1 (by omega) I, ?_⟩, d⟩
        rw [show r - i = (r - (i + 1)) + 1 by omega] at E
        exact E
    · right
      have e : i = r := by omega
      subst e
      rw [Nat.sub_self] at E
      have E2 : (i, A) = rrn v i 0 true A0 := E
      refine ⟨_, if_pos (nI_le (Nat.le_refl _) (by omega)), ?_, F, L, ?_, ?_⟩
      · rw [← E2]
      · rw [← E2]; exact S
      · rw [← E2]; exact I3) (by unfold gFuel; omega) (s0 := (nI 0, b2i true, μ)) ⟨by omega, true, A0, rfl, rfl, rfl, fun _ _ _ => rfl, hA, H, rfl⟩
  have e1 : x = nI (rrn v r 0 true A0).1 := e1
  subst e1
  exact ⟨ν1, h1, F1, L1, S1, I1⟩
theorem pv_AI (C : CI v) : AI v (pv v) (bN 0) := fun p hp => ⟨pv_rch C p, by
  by_cases c : pv v p = noH
  · exact Or.inl c
  · have := pv_b C c
    exact Or.inr (by unfold bN; omega)⟩
theorem c_settle (C : CO v μ) {r : Nat} (hr : r ≤ 200) : ∃ ν, f_X0_settle (nI r) μ = some (nI (rrn v r 0 true (pv v)).1, ν) ∧ gi ν 20 2 = 1 ∧ (∀ k i, rI k i = true → k ≠ 20 → ν.1 k i = μ.1 k i) ∧ (∀ k i, rL k = true → k ≠ 22 → ν.2 k i = μ.2 k i) ∧ (∀ p, p < nP v → gl ν 22 p = (rrn v r 0 true (pv v)).2 p) ∧ AI v (rrn v r 0 true (pv v)).2 1000000000000 := by
  have hb := C.1.b
  have z0 : (0 : Int32).toNatClampNeg = 0 := by decide
  have z16 : (16 : Int32).toNatClampNeg = 16 := by decide
  obtain ⟨ν1, e1, F1, P1⟩ := c_carry C
  have C1 := C.fr F1
  have C2 : CO v (si (cpl ν1 21 22 0 0 16) 20 2 (1 : Int32)) := ⟨C.1, (nv_cg (fun k i h1 h2 => by
    show (if k = 20 ∧ i = 2 then _ else ν1.1 k i) = ν1.1 k i
    rw [if_neg (by omega)])).trans C1.2⟩
  obtain ⟨ν2, e2, F2, L2, S2, K2⟩ := c_gather C2
  have C3 := C2.fr F2
  have hA : ∀ p, p < nP v → gl ν2 22 p = pv v p := fun p hp => by
    show ν2.2 22 p = _
    rw [L2]
    show (if (22 : Nat) = 22 ∧ 0 ≤ p ∧ p < 0 + 16 then ν1.2 21 (0 + (p - 0)) else ν1.2 22 p) = _
    rw [if_pos ⟨rfl, by omega, by omega⟩, show 0 + (p - 0) = p by omega]
    exact P1 p hp
  obtain ⟨ν3, e3, F3, L3, S3, I3⟩ := c_lp C3 hr S2 K2 hA (pv_AI C.1)
  refine ⟨ν3, ?_, ?_, fun k i hr hk => ?_, fun k i hr hk => ?_, S3, I3⟩
  · unfold f_X0_settle
    rw [e1, Option.bind_some, gckb (by decide), gckb (by decide), gckb (by decide), gckb (by decide), gckb (by decide), z0, z16, e2, Option.bind_some, show gloop (fun t => b_X0_settle_35 (nI r) t.1 t.2.1 t.2.2) gFuel ((0 : Int32), (1 : Int32), ν2) = _ from e3]
    rfl
  · show ν3.1 20 2 = 1
    rw [F3, F2.1 20 2 rfl]; rfl
  · rw [F3, F2.1 k i hr]
    show (if k = 20 ∧ i = 2 then _ else ν1.1 k i) = _
    rw [if_neg (fun w => hk w.1)]; exact F1.1 k i hr
  · rw [L3 k i hk, L2]
    show (if k = 22 ∧ _ then _ else ν1.2 k i) = _
    rw [if_neg (fun w => hk w.1)]; exact F1.2 k i hr
end SO
section SJ
variable {μ : gM}
end SJ

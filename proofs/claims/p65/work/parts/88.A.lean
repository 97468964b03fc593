/-! isSame; and the rounds of adjustment as the law does them -/
section ADJ
variable {v : Nat → Nat → Int32} {ν μ : gM}
theorem l_same (Co : CO v μ) (M : LM v ν) (H : HA v ν μ) : ∃ μ', f_L_isSame ν μ = some (true, μ') ∧ Fr μ μ' := by
  obtain ⟨μ1, e1, F1⟩ := l_ways Co M
  obtain ⟨μ2, e2, F2⟩ := l_loops (Co.fr F1) M
  obtain ⟨μ3, e3, F3⟩ := l_heights ((Co.fr F1).fr F2) M (H.fr (F1.tr F2))
  refine ⟨μ3, ?_, F1.tr (F2.tr F3)⟩
  have t : ¬ b2i true = 0 := by decide
  unfold f_L_isSame
  rw [l_lines Co M, Option.bind_some, if_neg t, e1, Option.bind_some, if_neg t, e2, Option.bind_some, if_neg t, e3, Option.bind_some, if_neg t]
theorem LM.cg {ν' : gM} (h : ∀ k i, (k ≠ 0 ∨ i ≠ 10) → gi ν' k i = gi ν k i) (M : LM v ν) : LM v ν' := by
  have e1 : lPt ν' = lPt ν := congrArg Int32.toNatClampNeg (h 0 1 (by omega))
  have e2 : lLn ν' = lLn ν := congrArg Int32.toNatClampNeg (h 0 2 (by omega))
  have e3 : lLs ν' = lLs ν := congrArg Int32.toNatClampNeg (h 6 2 (by omega))
  have e4 : ∀ k, lSz ν' k = lSz ν k := fun k => congrArg Int32.toNatClampNeg (h (40 + k) 2 (by omega))
  obtain ⟨m1, m2, m3, m4, m5, m6, m7⟩ := M
  refine ⟨?_, ?_, fun l hl => ?_, fun p hp => ?_, fun k hk => ?_, ?_, ?_⟩
  · rw [h 0 1 (by omega), h 0 2 (by omega)]; exact m1
  · rw [h 8 0 (by omega)]; exact m2
  · rw [h 1 l (by omega)]; exact m3 l hl
  · rw [h 2 p (by omega)]; exact m4 p hp
  · rw [h (20 + k) 0 (by omega), h (20 + k) 1 (by omega), h 4 k (by omega), h 5 k (by omega), h (40 + k) 2 (by omega)]
    obtain ⟨a, b, c, d, e, f⟩ := m5 k hk
    exact ⟨a, b, c, d, e, fun s hs w hw => by rw [h (100 + 8 * k + s) w (by omega)]; exact f s hs w hw⟩
  · unfold lS
    rw [e1, e2, e3, h 0 1 (by omega), h 0 2 (by omega), h 7 0 (by omega), h 6 2 (by omega)]
    exact ⟨m6.1, m6.2.1, m6.2.2.1, fun k hk => by rw [e4]; exact m6.2.2.2 k hk⟩
  · unfold lF
    rw [e2, e3]
    exact ⟨m7.1, m7.2.1, fun k hk => by rw [e4]; exact m7.2.2 k hk⟩
theorem neg64 {x : Int32} (h : -2147483648 < x.toInt) (a : Int64) : a - x.toInt64 = a + (-x).toInt64 := by
  have e : (-x).toInt64 = - x.toInt64 := by
    refine Int64.toInt_inj.mp ?_
    rw [Int32.toInt_toInt64, i32_neg h, Int64.toInt_neg, Int32.toInt_toInt64]
    have h2 := Int32.toInt_lt x
    rw [Int.bmod_eq_of_le (by omega) (by omega)]
  rw [e, Int64.sub_eq_add_neg]
/-- adjusted: there are heights, and they are A -/
def LH (v : Nat → Nat → Int32) (ν : gM) (A : Nat → Int64) : Prop := ¬ gi ν 0 10 = 0 ∧ ∀ p, p < nP v → gl ν 9 p = A p
theorem l_65 (C : CI v) (M : LM v ν) {A : Nat → Int64} (L : LH v ν A) {p : Nat} (hp : p < nP v) (x1 x2 x3 : Int32) : gloop (fun t => b_L_adjusts_65 x1 x2 x3 (nI p) t.1 t.2.1 t.2.2 ν μ) 12 ((0 : Int64), (0 : Int64), (0 : Int32)) = some (wsm v A p (nN v)) := by
  have hb := M.b
  refine gloop_run (fun k => ((wsm v A p k).1, (wsm v A p k).2, nI k)) (nN v) (fun k hk => ?_) ?_ 12 (by omega)
  · show b_L_adjusts_65 x1 x2 x3 (nI p) (wsm v A p k).1 (wsm v A p k).2 (nI k) ν μ = some (.inl ((wsm v A p (k + 1)).1, (wsm v A p (k + 1)).2, nI (k + 1)))
    have hg := C.g k hk
    have hl := (C.line hk).lnb
    have hne := (C.line hk).2.2.2.2.1
    have es : wsm v A p (k + 1) = if tT v k p then ((wsm v A p k).1 + wgt v k * (A (oO v k p) + (rfr v (oO v k p) k).toInt64), (wsm v A p k).2 + wgt v k) else wsm v A p k := rfl
    have ew : ((1000000 : Int32) / nI (ln v k)).toInt64 = wgt v k := by rw [l_w C hk]; rfl
    have h115 : tT v k p → j_L_adjusts_115 x1 x2 x3 (nI p) (wsm v A p k).1 (wsm v A p k).2 (nI k) ν μ = some (.inl ((wsm v A p (k + 1)).1, (wsm v A p (k + 1)).2, nI (k + 1))) := fun ht => by
      rw [es, if_pos ht]
      unfold j_L_adjusts_115 j_L_adjusts_192
      rw [l_length C M hk, Option.bind_some, gckb (nI_ne0 (by omega) (by omega)), M.ll]
      simp (disch := omega) only [gck, nI_clamp]
      rw [M.f C hk, M.s C hk, M.lp]
      simp (disch := omega) only [gck, nI_clamp]
      rw [gckb L.1, gckb L.1, l_rise C M hk, Option.bind_some, Option.bind_some, ew, L.2 _ hg.1, L.2 _ hg.2, nI_1]
      rcases ends ht with ⟨a, b⟩ | ⟨a, b⟩
      · rw [if_pos (by rw [b]), a, show rfr v (fs v k) k = ris v k from if_pos rfl]
      · rw [if_neg (fun w => hne ((nI_eq (by omega) (by omega)).mp (w.trans (by rw [b]))).symm), a, show rfr v (sn v k) k = - ris v k from if_neg hne, neg64 (by have := ris_b C hk; omega)]
    unfold b_L_adjusts_65
    rw [M.N, if_neg (nI_ge hk (by omega)), M.ll]
    simp (disch := omega) only [gck, nI_clamp]
    rw [M.f C hk, M.s C hk]
    by_cases a : (nA v).testBit k = true
    · rw [if_neg (fun q => (M.a0 hk).mp q a)]
      by_cases d : fs v k = p
      · rw [if_pos (by rw [d])]
        exact h115 ⟨a, Or.inl d⟩
      · rw [if_neg (fun w => d ((nI_eq (by omega) (by omega)).mp w))]
        by_cases d2 : sn v k = p
        · rw [if_pos (by rw [d2])]
          exact h115 ⟨a, Or.inr d2⟩
        · rw [if_neg (fun w => d2 ((nI_eq (by omega) (by omega)).mp w)), es, if_neg (fun w : tT v k p => w.2.elim d d2), nI_1]
    · rw [if_pos ((M.a0 hk).mpr a), es, if_neg (fun w : tT v k p => a w.1), nI_1]
  · show b_L_adjusts_65 x1 x2 x3 (nI p) _ _ (nI (nN v)) ν μ = _
    unfold b_L_adjusts_65
    rw [M.N, if_pos (nI_le (Nat.le_refl _) (by omega))]
def fl1 (b : Bool) : Int32 := if b = true then 0 else 1
/-- what a round leaves alone -/
def LK (ν ν' : gM) : Prop := ν'.1 = ν.1
theorem l_20 (C : CI v) (M : LM v ν) {A : Nat → Int64} {B : Int} (hB : 0 ≤ B ∧ B ≤ 150000000000) (I : AI v A B) (L : LH v ν A) (x1 x2 : Int32) : ∃ ν', gloop (fun (t : Int32 × Int32 × gM) => b_L_adjusts_20 x1 x2 t.1 t.2.1 t.2.2 μ) 9 ((1 : Int32), (0 : Int32), ν) = some (fl1 (srd v A (nP v)).1, ν') ∧ LK ν ν' ∧ LH v ν' (srd v A (nP v)).2 := by
  have hb := M.b
  have h : ∃ r, gloop (fun (t : Int32 × Int32 × gM) => b_L_adjusts_20 x1 x2 t.1 t.2.1 t.2.2 μ) 9 ((1 : Int32), (0 : Int32), ν) = some r ∧ r.1 = fl1 (srd v A (nP v)).1 ∧ LK ν r.2 ∧ LH v r.2 (srd v A (nP v)).2 := by
    refine gloop_relN (fun p (t : Int32 × Int32 × gM) => t.1 = fl1 (srd v A p).1 ∧ t.2.1 = nI p ∧ LK ν t.2.2 ∧ LH v t.2.2 (srd v A p).2) (fun (r : Int32 × gM) => r.1 = fl1 (srd v A (nP v)).1 ∧ LK ν r.2 ∧ LH v r.2 (srd v A (nP v)).2) (nP v) 9 (fun p t hp hR => ?_) (by omega) ⟨rfl, rfl, rfl, L⟩
    obtain ⟨x, y, ν'⟩ := t
    obtain ⟨e1, e2, K, L⟩ := hR
    have e1 : x = fl1 (srd v A p).1 := e1
    have e2 : y = nI p := e2
    subst e1 e2
    have K : LK ν ν' := K
    have L : LH v ν' (srd v A p).2 := L
    have M' : LM v ν' := M.cg (fun k i _ => by show ν'.1 k i = ν.1 k i; rw [K])
    show (∃ t, b_L_adjusts_20 x1 x2 (fl1 (srd v A p).1) (nI p) ν' μ = _ ∧ _) ∨ ∃ r, b_L_adjusts_20 x1 x2 (fl1 (srd v A p).1) (nI p) ν' μ = _ ∧ _
    unfold b_L_adjusts_20
    rw [M'.P]
    by_cases c : p = nP v
    · right
      subst c
      rw [if_pos (nI_le (Nat.le_refl _) (by omega))]
      exact ⟨_, rfl, rfl, K, L⟩
    · left
      have hpl : p < nP v := by omega
      have J := srd_I C hB I p (by omega)
      have es : srd v A (p + 1) = sst v (srd v A p) p := rfl
      rw [if_neg (nI_ge hpl (by omega)), gckb L.1, M'.lp]
      simp (disch := omega) only [gck, nI_clamp]
      rw [L.2 p hpl, M'.h hpl, nI_1]
      by_cases c1 : (srd v A p).2 p = noH
      · rw [if_pos (show (srd v A p).2 p = (-9223372036854775808 : Int64) from c1), es, show sst v (srd v A p) p = srd v A p from if_neg (fun w => w.1 c1)]
        exact ⟨_, rfl, ⟨rfl, rfl, K, L⟩, by omega⟩
      · rw [if_neg (show ¬ (srd v A p).2 p = (-9223372036854775808 : Int64) from c1)]
        by_cases c2 : v 5 p = -1
        · have ht := (J.up C ⟨by omega, by omega⟩ hpl ⟨c1, c2⟩).1
          obtain ⟨-, m2, -⟩ := mnv_b C (p := p) (show 0 ≤ B + 32800000 * (p : Int) ∧ B + 32800000 * (p : Int) ≤ 200000000000 by omega) (J.nb C hpl c1) ht
          rw [if_pos (by rw [c2]; decide), l_65 C M' L hpl, Option.bind_some, m2, Option.bind_some, gckb L.1, es, show sst v (srd v A p) p = ((srd v A p).1 || !decide (mnv v (srd v A p).2 p = (srd v A p).2 p), uN (srd v A p).2 p (mnv v (srd v A p).2 p)) from if_pos ⟨c1, c2⟩]
          have h248 : ∀ y1 : Int32, j_L_adjusts_248 x1 x2 (nI p) (mnv v (srd v A p).2 p) (fl1 (srd v A p).1) y1 ν' μ = some (.inl (fl1 (srd v A p).1 &&& y1, nI (p + 1), sl ν' 9 p (mnv v (srd v A p).2 p))) := fun y1 => by
            unfold j_L_adjusts_248
            rw [gckb L.1, M'.lp]
            simp (disch := omega) only [gck, nI_clamp]
            rw [nI_1]
            rfl
          have LL : LH v (sl ν' 9 p (mnv v (srd v A p).2 p)) (uN (srd v A p).2 p (mnv v (srd v A p).2 p)) := by
            refine ⟨L.1, fun q hq => ?_⟩
            rw [gl_sl]
            by_cases e : q = p
            · rw [if_pos ⟨rfl, e⟩, e, uN_s]
            · rw [if_neg (fun w => e w.2), uN_n e]; exact L.2 q hq
          by_cases g : mnv v (srd v A p).2 p = (srd v A p).2 p
          · rw [if_pos g, h248]
            refine ⟨_, rfl, ⟨?_, rfl, K, LL⟩, by omega⟩
            show fl1 (srd v A p).1 &&& 1 = fl1 ((srd v A p).1 || !decide (mnv v (srd v A p).2 p = (srd v A p).2 p))
            rw [decide_eq_true g]
            cases (srd v A p).1 <;> decide
          · rw [if_neg g, h248]
            refine ⟨_, rfl, ⟨?_, rfl, K, LL⟩, by omega⟩
            show fl1 (srd v A p).1 &&& 0 = fl1 ((srd v A p).1 || !decide (mnv v (srd v A p).2 p = (srd v A p).2 p))
            rw [decide_eq_false g]
            cases (srd v A p).1 <;> decide
        · have g0 : ¬ v 5 p < 0 := fun w => by
            have g := (held_ge C hpl).mpr c2
            rw [Int32.lt_iff_toInt_lt] at w
            rw [Int32.le_iff_toInt_le] at g
            omega
          rw [if_neg g0, es, show sst v (srd v A p) p = srd v A p from if_neg (fun w => c2 w.2)]
          exact ⟨_, rfl, ⟨rfl, rfl, K, L⟩, by omega⟩
  obtain ⟨⟨x, ν'⟩, hr, e1, K, L⟩ := h
  have e1 : x = fl1 (srd v A (nP v)).1 := e1
  subst e1
  exact ⟨ν', hr, K, L⟩
theorem l_10r (C : CI v) {r : Nat} (hr : r ≤ 30) : ∀ f n A ν, n + f = r → LM v ν → AI v A (bN n) → LH v ν A → ∀ g, f < g → ∃ o ν', gloop (fun (t : Int32 × gM) => b_L_adjusts_10 (nI r) t.1 t.2 μ) g (nI (n + 1), ν) = some o ∧ Sum.elim (fun t => some ((nI r : Int32), t)) (fun x => some x) o = some (nI (rrn v f n true A).1, ν') ∧ LK ν ν' ∧ LH v ν' (rrn v f n true A).2 := by
  intro f
  induction f with
  | zero =>
    intro n A ν hn M I L g hg
    obtain ⟨g, rfl⟩ : ∃ q, g = q + 1 := ⟨g - 1, by omega⟩
    refine ⟨.inl ν, ν, ?_, ?_, rfl, L⟩
    · show (b_L_adjusts_10 (nI r) (nI (n + 1)) ν μ).bind _ = _
      unfold b_L_adjusts_10
      rw [if_pos (nI_lt (by omega) (by omega))]
      rfl
    · show some (nI r, ν) = some (nI n, ν)
      rw [show r = n by omega]
  | succ f ih =>
    intro n A ν hn M I L g hg
    obtain ⟨g, rfl⟩ : ∃ q, g = q + 1 := ⟨g - 1, by omega⟩
    obtain ⟨ν', e, K, L'⟩ := l_20 (μ := μ) C M (B := bN n) (by unfold bN; omega) I L (nI r) (nI (n + 1))
    have M' : LM v ν' := M.cg (fun k i _ => by show ν'.1 k i = ν.1 k i; rw [K])
    have I' := srd_N C (n := n) (by omega) I
    show ∃ o ν'', (b_L_adjusts_10 (nI r) (nI (n + 1)) ν μ).bind _ = some o ∧ Sum.elim _ _ o = some (nI (rrn v f (n + 1) (srd v A (nP v)).1 (srd v A (nP v)).2).1, ν'') ∧ LK ν ν'' ∧ LH v ν'' (rrn v f (n + 1) (srd v A (nP v)).1 (srd v A (nP v)).2).2
    have eb : b_L_adjusts_10 (nI r) (nI (n + 1)) ν μ = if (srd v A (nP v)).1 = true then some (.inl (nI (n + 2), ν')) else some (.inr (.inr (nI (n + 1), ν'))) := by
      unfold b_L_adjusts_10
      rw [if_neg (nI_nlt (by omega) (by omega)), e, Option.bind_some, nI_1]
      cases (srd v A (nP v)).1
      · rw [if_neg (show ¬ fl1 false = 0 by decide), if_neg (by decide)]
      · rw [if_pos (show fl1 true = 0 by decide), if_pos rfl]
    rw [eb]
    cases hc : (srd v A (nP v)).1 with
    | true =>
      rw [if_pos rfl]
      obtain ⟨o, ν'', q1, q2, q3, q4⟩ := ih (n + 1) (srd v A (nP v)).2 ν' (by omega) M' I' L' g (by omega)
      exact ⟨o, ν'', q1, q2, q3.trans K, q4⟩
    | false =>
      rw [if_neg (by decide)]
      have er : rrn v f (n + 1) false (srd v A (nP v)).2 = (n + 1, (srd v A (nP v)).2) := by
        cases f with
        | zero => rfl
        | succ f => exact if_neg (by decide)
      rw [er]
      exact ⟨.inr (nI (n + 1), ν'), ν', rfl, rfl, K, L'⟩
theorem l_adjusts (C : CI v) (M : LM v ν) {r : Nat} (hr : r ≤ 30) : ∃ ν', f_L_adjusts (nI r) ν μ = some (nI (rrn v r 0 true (pv v)).1, ν') ∧ LM v ν' ∧ gi ν' 0 10 = 1 ∧ ∀ p, p < nP v → gl ν' 9 p = (rrn v r 0 true (pv v)).2 p := by
  obtain ⟨q, e, hq⟩ := l_prov (μ := μ) C M
  obtain ⟨ν1, h1⟩ : ∃ ν1, ν1 = sll (si ν 0 10 1) 9 q := ⟨_, rfl⟩
  have M1 : LM v ν1 := M.cg (fun k i h => by
    rw [h1]
    show gi (si ν 0 10 1) k i = gi ν k i
    rw [gi_si, if_neg (by omega)])
  have g1 : gi ν1 0 10 = 1 := by rw [h1]; rfl
  have L1 : LH v ν1 (pv v) := ⟨by rw [g1]; decide, fun p hp => by
    rw [h1]
    exact hq p hp⟩
  obtain ⟨o, ν', q1, q2, K, L⟩ := l_10r (μ := μ) C hr r 0 (pv v) ν1 (by omega) M1 (pv_AI C) L1 31 (by omega)
  refine ⟨ν', ?_, M1.cg (fun k i _ => by show ν'.1 k i = ν1.1 k i; rw [K]), ?_, L.2⟩
  · unfold f_L_adjusts
    rw [e, Option.bind_some, Option.bind_some, ← h1]
    rw [show gloop (fun (t : Int32 × gM) => b_L_adjusts_10 (nI r) t.1 t.2 μ) 31 ((1 : Int32), ν1) = some o from q1, Option.bind_some]
    exact q2
  · show ν'.1 0 10 = 1
    rw [K]; exact g1
end ADJ

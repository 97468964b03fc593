/-! pairs, lines at a point, lengths, faults, names, settings, tests -/
/-- the first k below n that P says, or none -/
def fstN (P : Nat → Bool) : Nat → Option Nat
  | 0 => none
  | n + 1 => match fstN P n with
    | some k => some k
    | none => if P n then some n else none
theorem fstN_lt {P : Nat → Bool} : ∀ {n k : Nat}, fstN P n = some k → k < n ∧ P k = true ∧ ∀ j, j < k → P j = false := by
  intro n
  induction n with
  | zero => intro k h; cases h
  | succ n ih =>
    intro k h
    unfold fstN at h
    cases e : fstN P n with
    | some q =>
      rw [e] at h
      cases h
      obtain ⟨a, b⟩ := ih e
      exact ⟨by omega, b⟩
    | none =>
      rw [e] at h
      by_cases c : P n = true
      · rw [show (if P n then some n else none) = some n from if_pos c] at h
        cases h
        refine ⟨by omega, c, ?_⟩
        have key : ∀ m, fstN P m = none → ∀ j, j < m → P j = false := by
          intro m
          induction m with
          | zero => intro _ j hj; exact absurd hj (by omega)
          | succ m im =>
            intro hm j hj
            unfold fstN at hm
            cases e2 : fstN P m with
            | some q => rw [e2] at hm; cases hm
            | none =>
              rw [e2] at hm
              by_cases d : P m = true
              · rw [show (if P m then some m else none) = some m from if_pos d] at hm; cases hm
              · rcases Nat.lt_or_ge j m with q | q
                · exact im e2 j q
                · rw [show j = m by omega]; exact Bool.eq_false_iff.mpr d
        exact key n e
      · rw [show (if P n then some n else none) = none from if_neg c] at h; cases h
theorem fstN_none {P : Nat → Bool} : ∀ {n : Nat}, fstN P n = none → ∀ j, j < n → P j = false := by
  intro m
  induction m with
  | zero => intro _ j hj; exact absurd hj (by omega)
  | succ m im =>
    intro hm j hj
    unfold fstN at hm
    cases e2 : fstN P m with
    | some q => rw [e2] at hm; cases hm
    | none =>
      rw [e2] at hm
      by_cases d : P m = true
      · rw [show (if P m then some m else none) = some m from if_pos d] at hm; cases hm
      · rcases Nat.lt_or_ge j m with q | q
        · exact im e2 j q
        · rw [show j = m by omega]; exact Bool.eq_false_iff.mpr d
/-- a loop that looks for the first k below n -/
theorem gloop_find {P : Nat → Bool} {body : Int32 → Option (Int32 ⊕ (Unit ⊕ Int32))} (n : Nat) (hn : n < 100) (h1 : ∀ k, k < n → P k = false → body (nI k) = some (.inl (nI (k + 1)))) (h2 : ∀ k, k < n → P k = true → body (nI k) = some (.inr (.inr (nI k)))) (h3 : body (nI n) = some (.inr (.inl ()))) :
    gloop body gFuel (nI 0) = some (match fstN P n with | some k => .inr (nI k) | none => .inl ()) := by
  cases e : fstN P n with
  | none => exact gloop_run (fun i => nI i) n (fun i hi => h1 i hi (fstN_none e i hi)) h3 gFuel (by unfold gFuel; omega)
  | some k =>
    obtain ⟨a, b, d⟩ := fstN_lt e
    exact gloop_run (fun i => nI i) k (fun i hi => h1 i (by omega) (d i hi)) (h2 k a b) gFuel (by unfold gFuel; omega)
def oI : Option Nat → Int32
  | some k => nI k
  | none => -1
def isPair (v : Nat → Nat → Int32) (k o : Nat) : Bool := decide (o ≠ k) && (decide (fs v o = fs v k ∧ sn v o = sn v k) || decide (fs v o = sn v k ∧ sn v o = fs v k))
def prN (v : Nat → Nat → Int32) (k : Nat) : Option Nat := fstN (isPair v k) (nN v)
section PAIR
variable {v : Nat → Nat → Int32} {μ : gM} {k : Nat}
theorem pr_t {v : Nat → Nat → Int32} {k o : Nat} : isPair v k o = true ↔ o ≠ k ∧ ((fs v o = fs v k ∧ sn v o = sn v k) ∨ (fs v o = sn v k ∧ sn v o = fs v k)) := by
  unfold isPair
  simp only [Bool.and_eq_true, Bool.or_eq_true, decide_eq_true_eq]
theorem pr_f {v : Nat → Nat → Int32} {k o : Nat} : isPair v k o = false ↔ ¬ (o ≠ k ∧ ((fs v o = fs v k ∧ sn v o = sn v k) ∨ (fs v o = sn v k ∧ sn v o = fs v k))) := by
  rw [← pr_t]; exact Bool.eq_false_iff
theorem m_pair (M : MO v μ) (hk : k < nN v) : f_X8_pair (nI k) μ = some (oI (prN v k)) := by
  have hb := M.1.b
  have hlk := M.1.line hk
  have step : ∀ o, o < nN v → b_X8_pair_2 (nI k) (nI o) μ = if isPair v k o then some (.inr (.inr (nI o))) else some (.inl (nI (o + 1))) := by
    intro o ho
    have hlo := M.1.line ho
    have q1 : (nI (fs v o) = nI (fs v k)) = (fs v o = fs v k) := eN (by have := hlo.2.2; omega) (by have := hlk.2.2; omega)
    have q2 : (nI (sn v o) = nI (sn v k)) = (sn v o = sn v k) := eN (by have := hlo.2.2; omega) (by have := hlk.2.2; omega)
    have q3 : (nI (fs v o) = nI (sn v k)) = (fs v o = sn v k) := eN (by have := hlo.2.2; omega) (by have := hlk.2.2; omega)
    have q4 : (nI (sn v o) = nI (fs v k)) = (sn v o = fs v k) := eN (by have := hlo.2.2; omega) (by have := hlk.2.2; omega)
    have q5 : (nI o = nI k) = (o = k) := eN (by omega) (by omega)
    unfold b_X8_pair_2 j_X8_pair_37 j_X8_pair_63 j_X8_pair_67 j_X8_pair_68
    simp only [m_cN M, Option.bind_some, if_neg (nI_ge ho (show nN v < 2 ^ 31 by omega)), m_first M ho, m_first M hk, m_second M ho, m_second M hk, q1, q2, q3, q4, q5, nI_1]
    by_cases c : o = k
    · rw [show isPair v k o = false from pr_f.mpr (fun q => q.1 c)]
      simp only [c, if_true, Bool.false_eq_true, if_false, ite_self]
    · by_cases c1 : fs v o = fs v k ∧ sn v o = sn v k
      · rw [show isPair v k o = true from pr_t.mpr ⟨c, Or.inl c1⟩]
        rw [if_pos c1.1, if_pos c1.2, if_neg c, if_neg (by decide)]; rfl
      · by_cases c2 : fs v o = sn v k ∧ sn v o = fs v k
        · rw [show isPair v k o = true from pr_t.mpr ⟨c, Or.inr c2⟩]
          simp only [if_neg c, if_pos c2.1, if_pos c2.2, if_neg (show ¬ (1 : Int32) = 0 by decide), ite_self, if_true]
        · rw [show isPair v k o = false from pr_f.mpr (fun q => q.2.elim c1 c2)]
          simp only [if_neg c, if_true, Bool.false_eq_true, if_false]
          by_cases d1 : fs v o = fs v k
          · rw [if_pos d1, if_neg (fun q => c1 ⟨d1, q⟩)]
            by_cases d2 : fs v o = sn v k
            · rw [if_pos d2, if_neg (fun q => c2 ⟨d2, q⟩)]
            · rw [if_neg d2]
          · rw [if_neg d1]
            by_cases d2 : fs v o = sn v k
            · rw [if_pos d2, if_neg (fun q => c2 ⟨d2, q⟩)]
            · rw [if_neg d2]
  unfold f_X8_pair
  have h := gloop_find (P := isPair v k) (body := fun t => b_X8_pair_2 (nI k) t μ) (nN v) (by omega) (fun o ho e => by show b_X8_pair_2 (nI k) (nI o) μ = _; rw [step o ho, e]; rfl) (fun o ho e => by show b_X8_pair_2 (nI k) (nI o) μ = _; rw [step o ho, e]; rfl) (by
    show b_X8_pair_2 (nI k) (nI (nN v)) μ = _
    unfold b_X8_pair_2
    rw [m_cN M, Option.bind_some, if_pos (nI_le (Nat.le_refl _) (by omega))])
  rw [show (0 : Int32) = nI 0 from rfl, h, Option.bind_some]
  unfold prN
  cases fstN (isPair v k) (nN v) <;> rfl
theorem c_pair (M : CO v μ) (hk : k < nN v) : f_X3_findPair (nI k) μ = some (oI (prN v k)) := by
  have hb := M.1.b
  have hlk := M.1.line hk
  have step : ∀ o, o < nN v → b_X3_findPair_2 (nI k) (nI o) μ = if isPair v k o then some (.inr (.inr (nI o))) else some (.inl (nI (o + 1))) := by
    intro o ho
    have hlo := M.1.line ho
    have q1 : (nI (fs v o) = nI (fs v k)) = (fs v o = fs v k) := eN (by have := hlo.2.2; omega) (by have := hlk.2.2; omega)
    have q2 : (nI (sn v o) = nI (sn v k)) = (sn v o = sn v k) := eN (by have := hlo.2.2; omega) (by have := hlk.2.2; omega)
    have q3 : (nI (fs v o) = nI (sn v k)) = (fs v o = sn v k) := eN (by have := hlo.2.2; omega) (by have := hlk.2.2; omega)
    have q4 : (nI (sn v o) = nI (fs v k)) = (sn v o = fs v k) := eN (by have := hlo.2.2; omega) (by have := hlk.2.2; omega)
    have q5 : (nI o = nI k) = (o = k) := eN (by omega) (by omega)
    unfold b_X3_findPair_2 j_X3_findPair_44 j_X3_findPair_45 j_X3_findPair_80 j_X3_findPair_81
    rw [M.N, if_neg (nI_ge ho (show nN v < 2 ^ 31 by omega))]
    simp (disch := omega) only [gck, nI_clamp, c_fs M ho, c_fs M hk, c_sn M ho, c_sn M hk, q1, q2, q3, q4, q5, nI_1]
    by_cases c : o = k
    · rw [show isPair v k o = false from pr_f.mpr (fun q => q.1 c)]
      simp only [c, if_true, Bool.false_eq_true, if_false, ite_self]
    · by_cases c1 : fs v o = fs v k ∧ sn v o = sn v k
      · rw [show isPair v k o = true from pr_t.mpr ⟨c, Or.inl c1⟩]
        simp only [if_neg c, if_pos c1.1, if_pos c1.2, if_neg (show ¬ (1 : Int32) = 0 by decide), ite_self, if_true]
      · by_cases c2 : fs v o = sn v k ∧ sn v o = fs v k
        · rw [show isPair v k o = true from pr_t.mpr ⟨c, Or.inr c2⟩]
          simp only [if_neg c, if_pos c2.1, if_pos c2.2, if_neg (show ¬ (1 : Int32) = 0 by decide), ite_self, if_true]
        · rw [show isPair v k o = false from pr_f.mpr (fun q => q.2.elim c1 c2)]
          simp only [if_neg c, if_true, Bool.false_eq_true, if_false]
          by_cases d1 : fs v o = fs v k
          · rw [if_pos d1, if_neg (fun q => c1 ⟨d1, q⟩)]
            by_cases d2 : fs v o = sn v k
            · rw [if_pos d2, if_neg (fun q => c2 ⟨d2, q⟩)]
            · rw [if_neg d2]
          · rw [if_neg d1]
            by_cases d2 : fs v o = sn v k
            · rw [if_pos d2, if_neg (fun q => c2 ⟨d2, q⟩)]
            · rw [if_neg d2]
  unfold f_X3_findPair
  have h := gloop_find (P := isPair v k) (body := fun t => b_X3_findPair_2 (nI k) t μ) (nN v) (by omega) (fun o ho e => by show b_X3_findPair_2 (nI k) (nI o) μ = _; rw [step o ho, e]; rfl) (fun o ho e => by show b_X3_findPair_2 (nI k) (nI o) μ = _; rw [step o ho, e]; rfl) (by
    show b_X3_findPair_2 (nI k) (nI (nN v)) μ = _
    unfold b_X3_findPair_2
    rw [M.N, if_pos (nI_le (Nat.le_refl _) (by omega))])
  rw [show (0 : Int32) = nI 0 from rfl, h, Option.bind_some]
  unfold prN
  cases fstN (isPair v k) (nN v) <;> rfl
end PAIR
def lnsAt (v : Nat → Nat → Int32) (p : Nat) : Nat → Int32
  | 0 => 0
  | n + 1 => if (nA v).testBit n = true ∧ (fs v n = p ∨ sn v n = p) then lnsAt v p n ||| ((1 : Int32) <<< (nI n &&& 31)) else lnsAt v p n
def totL (v : Nat → Nat → Int32) : Nat → Int32
  | 0 => 0
  | n + 1 => if (nA v).testBit n = true then totL v n + nI (ln v n) else totL v n
section G4
variable {μ : gM}
theorem sim_22 (s1 : Int32) (R : Rel μ) : simOK μ (f_case_22 s1 μ) := by
  have hb := R.1.b
  refine pureI (fC := f_X7_pairOf s1 μ) (fM := f_X8_pairOf s1) R ?_
  rcases ix3 s1 (n := nN (nv 34 μ)) (by omega) with h | ⟨a, ha, rfl⟩
  · refine Or.inl ⟨?_, ?_⟩
    · unfold f_X7_pairOf; rw [R.co.N, needB (by omega) h]; rfl
    · unfold f_X8_pairOf; rw [m_lineB R.mo h]; rfl
  · refine Or.inr ⟨oI (prN (nv 34 μ) a), ?_, fun ν M => ?_⟩
    · unfold f_X7_pairOf; rw [R.co.N, needG (by omega) ha, Option.bind_some]; show Option.bind (f_X3_findPair _ _) _ = _; rw [c_pair R.co ha]; rfl
    · unfold f_X8_pairOf; rw [m_lineG M ha, Option.bind_some, failG, Option.bind_some]; simp only [bF, if_true]; rw [m_pair (M.si6 0) ha]; rfl
theorem sim_23 (s1 : Int32) (R : Rel μ) : simOK μ (f_case_23 s1 μ) := by
  have hb := R.1.b
  refine pureI (fC := f_X7_discrepancy s1 μ) (fM := f_X8_discrepancy s1) R ?_
  rcases ix3 s1 (n := nN (nv 34 μ)) (by omega) with h | ⟨a, ha, rfl⟩
  · refine Or.inl ⟨?_, ?_⟩
    · unfold f_X7_discrepancy; rw [R.co.N, needB (by omega) h]; rfl
    · unfold f_X8_discrepancy; rw [m_lineB R.mo h]; rfl
  · have C := R.co
    cases e : prN (nv 34 μ) a with
    | none =>
      refine Or.inr ⟨-2147483648, ?_, fun ν M => ?_⟩
      · unfold f_X7_discrepancy; rw [C.N, needG (by omega) ha, Option.bind_some]; show Option.bind (f_X3_findPair _ _) _ = _; rw [c_pair C ha, e]; rfl
      · unfold f_X8_discrepancy; rw [m_lineG M ha, Option.bind_some, failG, Option.bind_some]; simp only [bF, if_true]; rw [m_pair (M.si6 0) ha, e]; rfl
    | some o =>
      have ho := (fstN_lt e).1
      have hf := (C.1.line ha).2.2.1
      refine Or.inr ⟨ris (nv 34 μ) a - (if fs (nv 34 μ) o = fs (nv 34 μ) a then ris (nv 34 μ) o else - ris (nv 34 μ) o), ?_, fun ν M => ?_⟩
      · unfold f_X7_discrepancy; rw [C.N, needG (by omega) ha, Option.bind_some]; show Option.bind (f_X3_findPair _ _) _ = _; rw [c_pair C ha, e, Option.bind_some]
        show (if nI o = -1 then _ else _) = _
        rw [if_neg (fun q => by
          have h1 : (nI o).toInt = (-1 : Int32).toInt := congrArg _ q
          rw [nI_toInt (by omega)] at h1
          have h2 : (-1 : Int32).toInt = -1 := by decide
          omega), c_lineRise C ha, Option.bind_some, gck (by omega) (by decide), nI_clamp (by omega), c_fs C ha, show oI (some o) = nI o from rfl, c_riseFrom C ho (p := fs (nv 34 μ) a) (by omega)]
        rfl
      · unfold f_X8_discrepancy; rw [m_lineG M ha, Option.bind_some, failG, Option.bind_some]; simp only [bF, if_true]; rw [m_pair (M.si6 0) ha, e, Option.bind_some]
        show (if 0 ≤ nI o then _ else _) = _
        rw [if_pos (nI_pos' (by omega)), m_rise (M.si6 0) ha, Option.bind_some, m_first (M.si6 0) ha, Option.bind_some, show oI (some o) = nI o from rfl, m_riseFrom (M.si6 0) ho (p := fs (nv 34 μ) a) (by omega)]
        rfl
theorem sim_24 (s1 : Int32) (R : Rel μ) : simOK μ (f_case_24 s1 μ) := by
  have hb := R.1.b
  refine pureI (fC := f_X7_linesAt s1 μ) (fM := f_X8_linesAt s1) R ?_
  rcases ix3 s1 (n := nP (nv 34 μ)) (by omega) with h | ⟨a, ha, rfl⟩
  · refine Or.inl ⟨?_, ?_⟩
    · unfold f_X7_linesAt; rw [R.co.P, needB (by omega) h]; rfl
    · unfold f_X8_linesAt; rw [m_pointB R.mo h]; rfl
  · have C := R.co
    refine Or.inr ⟨lnsAt (nv 34 μ) a (nN (nv 34 μ)), ?_, fun ν M => ?_⟩
    · unfold f_X7_linesAt; rw [C.P, needG (by omega) ha, Option.bind_some]
      have h : gloop (fun t => b_X7_linesAt_15 (nI a) t.1 t.2 μ) gFuel ((0 : Int32), (0 : Int32)) = some (lnsAt (nv 34 μ) a (nN (nv 34 μ))) := by
        refine gloop_run (fun i => (lnsAt (nv 34 μ) a i, nI i)) (nN (nv 34 μ)) (fun i hi => ?_) ?_ gFuel (by unfold gFuel; omega)
        · show b_X7_linesAt_15 (nI a) _ (nI i) μ = _
          have hl := (C.1.line hi).2.2
          unfold b_X7_linesAt_15
          rw [C.N, if_neg (nI_ge hi (by omega)), C.A, c_across C hi C.1.A31 (by omega), Option.bind_some, nI_1]
          have neg : ∀ x, x < 2 ^ 31 → ¬ nI x = -1 := fun x hx q => by
            have h1 : (nI x).toInt = (-1 : Int32).toInt := congrArg _ q
            rw [nI_toInt hx] at h1
            have h2 : (-1 : Int32).toInt = -1 := by decide
            omega
          show _ = some (Sum.inl ((if (nA (nv 34 μ)).testBit i = true ∧ (fs (nv 34 μ) i = a ∨ sn (nv 34 μ) i = a) then _ else _), nI (i + 1)))
          by_cases c1 : (nA (nv 34 μ)).testBit i = true ∧ fs (nv 34 μ) i = a
          · rw [if_pos c1, if_neg (neg _ (by omega)), if_pos ⟨c1.1, Or.inl c1.2⟩]
          · rw [if_neg c1]
            by_cases c2 : (nA (nv 34 μ)).testBit i = true ∧ sn (nv 34 μ) i = a
            · rw [if_pos c2, if_neg (neg _ (by omega)), if_pos ⟨c2.1, Or.inr c2.2⟩]
            · rw [if_neg c2, if_pos rfl, if_neg (fun q => q.2.elim (fun w => c1 ⟨q.1, w⟩) (fun w => c2 ⟨q.1, w⟩))]
        · show b_X7_linesAt_15 (nI a) _ (nI (nN (nv 34 μ))) μ = _
          unfold b_X7_linesAt_15
          rw [C.N, if_pos (nI_le (Nat.le_refl _) (by omega))]
      show Option.bind (gloop _ gFuel _) _ = _
      rw [h]; rfl
    · have M1 := M.si6 0
      unfold f_X8_linesAt; rw [m_pointG M ha, Option.bind_some, failG, Option.bind_some]; simp only [bF, if_true]
      have h : gloop (fun t => b_X8_linesAt_18 (nI a) t.1 t.2 (si ν 60 6 0)) gFuel ((0 : Int32), (0 : Int32)) = some (lnsAt (nv 34 μ) a (nN (nv 34 μ))) := by
        refine gloop_run (fun i => (lnsAt (nv 34 μ) a i, nI i)) (nN (nv 34 μ)) (fun i hi => ?_) ?_ gFuel (by unfold gFuel; omega)
        · show b_X8_linesAt_18 (nI a) _ (nI i) _ = _
          unfold b_X8_linesAt_18
          rw [m_cN M1, Option.bind_some, if_neg (nI_ge hi (by omega)), m_touches M1 hi (by omega), Option.bind_some, nI_1]
          show _ = some (Sum.inl ((if (nA (nv 34 μ)).testBit i = true ∧ (fs (nv 34 μ) i = a ∨ sn (nv 34 μ) i = a) then _ else _), nI (i + 1)))
          by_cases c : (nA (nv 34 μ)).testBit i = true ∧ (fs (nv 34 μ) i = a ∨ sn (nv 34 μ) i = a)
          · rw [decide_eq_true c, if_neg (by decide), if_pos c]
          · rw [decide_eq_false c, if_pos (show b2i false = 0 from rfl), if_neg c, Int32.or_zero]
        · show b_X8_linesAt_18 (nI a) _ (nI (nN (nv 34 μ))) _ = _
          unfold b_X8_linesAt_18
          rw [m_cN M1, Option.bind_some, if_pos (nI_le (Nat.le_refl _) (by omega))]
      rw [h]; rfl
theorem sim_51 (R : Rel μ) : simOK μ (f_case_51 μ) := by
  have hb := R.1.b
  have C := R.co
  have M1 := R.mo.si6 0
  refine caseE (w := totL (nv 34 μ) (nN (nv 34 μ))) (μ2 := si μ 60 6 0) ?_ ?_ (si60 0) R
  · unfold f_X7_totalLength
    have h : gloop (fun t => b_X7_totalLength_4 t.1 t.2 μ) gFuel ((0 : Int32), (0 : Int32)) = some (totL (nv 34 μ) (nN (nv 34 μ))) := by
      refine gloop_run (fun i => (totL (nv 34 μ) i, nI i)) (nN (nv 34 μ)) (fun i hi => ?_) ?_ gFuel (by unfold gFuel; omega)
      · show b_X7_totalLength_4 _ (nI i) μ = _
        unfold b_X7_totalLength_4
        rw [C.N, if_neg (nI_ge hi (by omega)), c_isActive C hi, Option.bind_some, c_lineLength C hi, nI_1]
        show _ = some (Sum.inl ((if (nA (nv 34 μ)).testBit i = true then _ else _), nI (i + 1)))
        cases (nA (nv 34 μ)).testBit i <;> rfl
      · show b_X7_totalLength_4 _ (nI (nN (nv 34 μ))) μ = _
        unfold b_X7_totalLength_4
        rw [C.N, if_pos (nI_le (Nat.le_refl _) (by omega))]
    rw [h]; rfl
  · unfold f_X8_totalLength
    have h : gloop (fun t => b_X8_totalLength_9 t.1 t.2 (si μ 60 6 0)) gFuel ((0 : Int32), (0 : Int32)) = some (totL (nv 34 μ) (nN (nv 34 μ))) := by
      refine gloop_run (fun i => (totL (nv 34 μ) i, nI i)) (nN (nv 34 μ)) (fun i hi => ?_) ?_ gFuel (by unfold gFuel; omega)
      · show b_X8_totalLength_9 _ (nI i) _ = _
        unfold b_X8_totalLength_9
        rw [m_cN M1, Option.bind_some, if_neg (nI_ge hi (by omega)), m_isActive M1 hi, Option.bind_some, m_length M1 hi, nI_1]
        show _ = some (Sum.inl ((if (nA (nv 34 μ)).testBit i = true then _ else _), nI (i + 1)))
        cases (nA (nv 34 μ)).testBit i
        · simp only [bF, if_true, Int32.add_zero]; rfl
        · rfl
      · show b_X8_totalLength_9 _ (nI (nN (nv 34 μ))) _ = _
        unfold b_X8_totalLength_9
        rw [m_cN M1, Option.bind_some, if_pos (nI_le (Nat.le_refl _) (by omega))]
    rw [h]; rfl
end G4

/-! pairs, lines at a point, lengths, faults, names, settings, tests -/
/-- the first k below n that P says, or none -/
def fstN (P : Nat → Bool) : Nat → Option Nat
  | 0 => none
  | n + 1 => match fstN P n with
    | some k => some k
    | none => if P n then some n else none
theorem fstN_lt {P : Nat → Bool} : ∀ {n k : Nat}, fstN P n = some k → k < n ∧ P k = true ∧ ∀ j, j < k → P j = false := by
  intro n
  induction n with
  | zero => intro k h; cases h
  | succ n ih =>
    intro k h
    unfold fstN at h
    cases e : fstN P n with
    | some q =>
      rw [e] at h
      cases h
      obtain ⟨a, b⟩ := ih e
      exact ⟨by omega, b⟩
    | none =>
      rw [e] at h
      by_cases c : P n = true
      · rw [show (if P n then some n else none) = some n from if_pos c] at h
        cases h
        refine ⟨by omega, c, ?_⟩
        have key : ∀ m, fstN P m = none → ∀ j, j < m → P j = false := by
          intro m
          induction m with
          | zero => intro _ j hj; exact absurd hj (by omega)
          | succ m im =>
            intro hm j hj
            unfold fstN at hm
            cases e2 : fstN P m with
            | some q => rw [e2] at hm; cases hm
            | none =>
              rw [e2] at hm
              by_cases d : P m = true
              · rw [show (if P m then some m else none) = some m from if_pos d] at hm; cases hm
              · rcases Nat.lt_or_ge j m with q | q
                · exact im e2 j q
                · rw [show j = m by omega]; exact Bool.eq_false_iff.mpr d
        exact key n e
      · rw [show (if P n then some n else none) = none from if_neg c] at h; cases h
theorem fstN_none {P : Nat → Bool} : ∀ {n : Nat}, fstN P n = none → ∀ j, j < n → P j = false := by
  intro m
  induction m with
  | zero => intro _ j hj; exact absurd hj (by omega)
  | succ m im =>
    intro hm j hj
    unfold fstN at hm
    cases e2 : fstN P m with
    | some q => rw [e2] at hm; cases hm
    | none =>
      rw [e2] at hm
      by_cases d : P m = true
      · rw [show (if P m then some m else none) = some m from if_pos d] at hm; cases hm
      · rcases Nat.lt_or_ge j m with q | q
        · exact im e2 j q
        · rw [show j = m by omega]; exact Bool.eq_false_iff.mpr d
/-- a loop that looks for the first k below n -/
theorem gloop_find {P : Nat → Bool} {body : Int32 → Option (Int32 ⊕ (Unit ⊕ Int32))} (n : Nat) (hn : n < 100) (h1 : ∀ k, k < n → P k = false → body (nI k) = some (.inl (nI (k + 1)))) (h2 : ∀ k, k < n → P k = true → body (nI k) = some (.inr (.inr (nI k)))) (h3 : body (nI n) = some (.inr (.inl ()))) :
    gloop body gFuel (nI 0) = some (match fstN P n with | some k => .inr (nI k) | none => .inl ()) := by
  cases e : fstN P n with
  | none => exact gloop_run (fun i => nI i) n (fun i hi => h1 i hi (fstN_none e i hi)) h3 gFuel (by unfold gFuel; omega)
  | some k =>
    obtain ⟨a, b, d⟩ := fstN_lt e
    exact gloop_run (fun i => nI i) k (fun i hi => h1 i (by omega) (d i hi)) (h2 k a b) gFuel (by unfold gFuel; omega)
def oI : Option Nat → Int32
  | some k => nI k
  | none => -1
def isPair (v : Nat → Nat → Int32) (k o : Nat) : Bool := decide (o ≠ k) && (decide (fs v o = fs v k ∧ sn v o = sn v k) || decide (fs v o = sn v k ∧ sn v o = fs v k))
def prN (v : Nat → Nat → Int32) (k : Nat) : Option Nat := fstN (isPair v k) (nN v)
section PAIR
variable {v : Nat → Nat → Int32} {μ : gM} {k : Nat}
theorem pr_t {v : Nat → Nat → Int32} {k o : Nat} : isPair v k o = true ↔ o ≠ k ∧ ((fs v o = fs v k ∧ sn v o = sn v k) ∨ (fs v o = sn v k ∧ sn v o = fs v k)) := by
  unfold isPair
  simp only [Bool.and_eq_true, Bool.or_eq_true, decide_eq_true_eq]
theorem pr_f {v : Nat → Nat → Int32} {k o : Nat} : isPair v k o = false ↔ ¬ (o ≠ k ∧ ((fs v o = fs v k ∧ sn v o = sn v k) ∨ (fs v o = sn v k ∧ sn v o = fs v k))) := by
  rw [← pr_t]; exact Bool.eq_false_iff
end PAIR
def lnsAt (v : Nat → Nat → Int32) (p : Nat) : Nat → Int32
  | 0 => 0
  | n + 1 => if (nA v).testBit n = true ∧ (fs v n = p ∨ sn v n = p) then lnsAt v p n ||| ((1 : Int32) <<< (nI n &&& 31)) else lnsAt v p n
def totL (v : Nat → Nat → Int32) : Nat → Int32
  | 0 => 0
  | n + 1 => if (nA v).testBit n = true then totL v n + nI (ln v n) else totL v n
section G4
variable {μ : gM}
end G4

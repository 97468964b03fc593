section SM
variable {v : Nat → Nat → Int32} {μ : gM}
/-! the way back -/
def bkP (v : Nat → Nat → Int32) (D : Nat → Option Nat) (q k : Nat) : Bool := decide (tT v k q) && (match D (oO v k q), D q with
  | some a, some d => decide (a + ln v k = d)
  | _, _ => false)
theorem bkP_t {D : Nat → Option Nat} {q k : Nat} : bkP v D q k = true ↔ tT v k q ∧ ∃ a d, D (oO v k q) = some a ∧ D q = some d ∧ a + ln v k = d := by
  unfold bkP
  rw [Bool.and_eq_true, decide_eq_true_eq]
  refine and_congr Iff.rfl ?_
  cases D (oO v k q) with
  | none => exact ⟨fun h => (nomatch h), fun ⟨a, d, h, _⟩ => (nomatch h)⟩
  | some a =>
    cases D q with
    | none => exact ⟨fun h => (nomatch h), fun ⟨a, d, _, h, _⟩ => (nomatch h)⟩
    | some d =>
      show decide (a + ln v k = d) = true ↔ _
      rw [decide_eq_true_eq]
      exact ⟨fun h => ⟨a, d, rfl, rfl, h⟩, fun ⟨a', d', h1, h2, h3⟩ => by cases h1; cases h2; exact h3⟩
def bkN (v : Nat → Nat → Int32) (D : Nat → Option Nat) (q : Nat) : Option Nat := fstN (bkP v D q) (nN v)
def wyf (v : Nat → Nat → Int32) (D : Nat → Option Nat) (s : Nat) : Nat → Nat → Int32 × Int32 → Int32 × Int32
  | 0, _, X => X
  | f + 1, h, X => if h = s then X else match bkN v D h with
    | none => X
    | some k => wyf v D s f (oO v k h) (X.1 ||| ((1 : Int32) <<< (nI k &&& 31)), X.2 + rfr v (oO v k h) k)
theorem bkN_ex (C : CI v) {s q d : Nat} {D : Nat → Option Nat} (I : DI v s D) (A : alS v s D) (hd : D q = some d) (hq : q ≠ s) : ∃ k, bkN v D q = some k ∧ k < nN v ∧ tT v k q ∧ (∃ e, D (oO v k q) = some e ∧ e + ln v k = d) ∧ ∀ j, j < k → bkP v D q j = false := by
  obtain ⟨d2, hd2, hF⟩ := A q d (I.2 q d hd).2.1
  rw [hd] at hd2
  cases hd2
  obtain ⟨k, hk, ht, e, he, hde⟩ := isF_p hF hq
  obtain ⟨e2, he2, hF2⟩ := A _ e he.1
  have : e2 = e := Nat.le_antisymm (hF2.2 e he.1) (he.2 e2 hF2.1)
  subst this
  have hb : bkP v D q k = true := bkP_t.mpr ⟨ht, e2, d, he2, hd, hde.symm⟩
  cases c : bkN v D q with
  | none => exact absurd hb (by rw [fstN_none c k hk]; decide)
  | some j =>
    obtain ⟨h1, h2, h3⟩ := fstN_lt c
    obtain ⟨g1, a, d3, g2, g3, g4⟩ := bkP_t.mp h2
    rw [hd] at g3
    cases g3
    exact ⟨j, rfl, h1, g1, ⟨a, g2, g4⟩, h3⟩
end SM

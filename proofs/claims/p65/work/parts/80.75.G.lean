section GM
variable {v : Nat → Nat → Int32} {μ : gM}
theorem lt0_I {n : Nat} (h : n < 2 ^ 31) : ¬ nI n < 0 := nI_pos h
theorem TM0_vis {M : Nat → Bool} {X : TP} {ν : gM} {r p k c : Nat} (h : TM0 v M X ν) : TM0 v (uN M (oO v k p) true) (tvis v r p k X) (si (si (si (si ν 60 28 (X.2.2.2.2 ||| ((1 : Int32) <<< (nI k &&& 31)))) 71 (oO v k p) (nI k)) 72 (oO v k p) (nI (X.2.2.2.1 p + 1))) 70 c (nI (oO v k p))) := by
  refine ⟨fun q hq => ?_, fun q hq => ?_, ?_⟩
  · show _ = if uN M (oO v k p) true q = true then nI (uN X.2.2.2.1 (oO v k p) (X.2.2.2.1 p + 1) q) else -1
    rw [gi_sik (by decide)]
    by_cases e : q = oO v k p
    · rw [e, uN_s, uN_s, if_pos rfl, gi_sii]
    · rw [gi_sij e, gi_sik (by decide), gi_sik (by decide), uN_n e, uN_n e]; exact h.1 q hq
  · show _ = if uN M (oO v k p) true q = true then uN X.2.1 (oO v k p) (nI k) q else -1
    rw [gi_sik (by decide), gi_sik (by decide)]
    by_cases e : q = oO v k p
    · rw [e, uN_s, uN_s, if_pos rfl, gi_sii]
    · rw [gi_sij e, gi_sik (by decide), uN_n e, uN_n e]; exact h.2.1 q hq
  · rw [gi_sik (by decide), gi_sik (by decide), gi_sik (by decide), gi_sii]; rfl
/-! the lines that close a loop -/
abbrev lpB (A : Nat) (b : Int32) (k : Nat) : Prop := A.testBit k = true ∧ bt b k = false
def lc (A : Nat) (b : Int32) : Nat → Nat
  | 0 => 0
  | k + 1 => if lpB A b k then lc A b k + 1 else lc A b k
theorem lc_le (A : Nat) (b : Int32) : ∀ k, lc A b k ≤ k
  | 0 => Nat.le_refl _
  | k + 1 => by
    have := lc_le A b k
    unfold lc
    split <;> omega
theorem lc_mo (A : Nat) (b : Int32) {j : Nat} : ∀ k, j ≤ k → lc A b j ≤ lc A b k
  | 0, h => by rw [show j = 0 by omega]; exact Nat.le_refl _
  | k + 1, h => by
    by_cases e : j = k + 1
    · rw [e]; exact Nat.le_refl _
    · have := lc_mo A b k (show j ≤ k by omega)
      show _ ≤ if lpB A b k then lc A b k + 1 else lc A b k
      split <;> omega
theorem lc_in {A : Nat} {b : Int32} {k N : Nat} (hk : k < N) (h : lpB A b k) : lc A b k < lc A b N := by
  have := lc_mo A b (j := k + 1) N hk
  rw [show lc A b (k + 1) = lc A b k + 1 from if_pos h] at this
  omega
/-- each index below the count is a line's -/
theorem lc_ex {A : Nat} {b : Int32} {j : Nat} : ∀ N, j < lc A b N → ∃ k, k < N ∧ lpB A b k ∧ lc A b k = j
  | 0, h => absurd h (Nat.not_lt_zero _)
  | N + 1, h => by
    by_cases c : lpB A b N
    · rw [show lc A b (N + 1) = lc A b N + 1 from if_pos c] at h
      by_cases e : j = lc A b N
      · exact ⟨N, by omega, c, e.symm⟩
      · obtain ⟨k, a, r⟩ := lc_ex N (show j < lc A b N by omega)
        exact ⟨k, by omega, r⟩
    · rw [show lc A b (N + 1) = lc A b N from if_neg c] at h
      obtain ⟨k, a, r⟩ := lc_ex N h
      exact ⟨k, by omega, r⟩
/-- the tree lines, and the number of loops -/
def tbr (v : Nat → Nat → Int32) (A : Nat) : Int32 := (tgr v A (nP v)).2.1.2.2.2.2
def nlp (v : Nat → Nat → Int32) (A : Nat) : Nat := lc A (tbr v A) (nN v)
/-- what the model holds when loops are laid -/
def LL (v : Nat → Nat → Int32) (ν : gM) : Prop := TM0 v (tgr v (nA v) (nP v)).1 (tgr v (nA v) (nP v)).2.1 ν ∧ gi ν 60 29 = nI (nlp v (nA v)) ∧ ∀ k, k < nN v → lpB (nA v) (tbr v (nA v)) k → gi ν 73 (lc (nA v) (tbr v (nA v)) k) = nI k
end GM

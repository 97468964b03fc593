section NF
variable {v : Nat → Nat → Int32} {μ ρ : gM}
/-! names found while reading -/
def fLv (v : Nat → Nat → Int32) (w : Int32) : Option Nat := fstN (fun k => decide (v 2 k = w)) (nL v)
def fPv (v : Nat → Nat → Int32) (w : Int32) : Option Nat := fstN (fun k => decide (v 4 k = w)) (nP v)
theorem c_fL (w : Int32) (h0 : gi μ 47 0 = nI (nL v)) (hb : nL v ≤ 3) (hn : ∀ k, k < nL v → gi μ 49 k = v 2 k) : f_X3b_findLevel w μ = some (oI (fLv v w)) := by
  unfold f_X3b_findLevel fLv
  have h := gloop_find (P := fun k => decide (v 2 k = w)) (body := fun t => b_X3b_findLevel_2 w t μ) (nL v) (by omega) (fun k hk e => ?_) (fun k hk e => ?_) ?_
  · rw [show gloop (fun t => b_X3b_findLevel_2 w t μ) gFuel (0 : Int32) = _ from h, Option.bind_some]
    cases fstN (fun k => decide (v 2 k = w)) (nL v) <;> rfl
  · show b_X3b_findLevel_2 w (nI k) μ = _
    unfold b_X3b_findLevel_2
    rw [h0, if_neg (nI_ge hk (by omega)), gck (by omega) (by decide), nI_clamp (by omega), hn k hk, if_neg (of_decide_eq_false e), nI_1]
  · show b_X3b_findLevel_2 w (nI k) μ = _
    unfold b_X3b_findLevel_2
    rw [h0, if_neg (nI_ge hk (by omega)), gck (by omega) (by decide), nI_clamp (by omega), hn k hk, if_pos (of_decide_eq_true e)]
  · show b_X3b_findLevel_2 w (nI (nL v)) μ = _
    unfold b_X3b_findLevel_2
    rw [h0, if_pos (nI_le (Nat.le_refl _) (by omega))]
theorem c_fP (w : Int32) (h0 : gi μ 47 1 = nI (nP v)) (hb : nP v ≤ 16) (hn : ∀ k, k < nP v → gi μ 51 k = v 4 k) : f_X3b_findPoint w μ = some (oI (fPv v w)) := by
  unfold f_X3b_findPoint fPv
  have h := gloop_find (P := fun k => decide (v 4 k = w)) (body := fun t => b_X3b_findPoint_2 w t μ) (nP v) (by omega) (fun k hk e => ?_) (fun k hk e => ?_) ?_
  · rw [show gloop (fun t => b_X3b_findPoint_2 w t μ) gFuel (0 : Int32) = _ from h, Option.bind_some]
    cases fstN (fun k => decide (v 4 k = w)) (nP v) <;> rfl
  · show b_X3b_findPoint_2 w (nI k) μ = _
    unfold b_X3b_findPoint_2
    rw [h0, if_neg (nI_ge hk (by omega)), gck (by omega) (by decide), nI_clamp (by omega), hn k hk, if_neg (of_decide_eq_false e), nI_1]
  · show b_X3b_findPoint_2 w (nI k) μ = _
    unfold b_X3b_findPoint_2
    rw [h0, if_neg (nI_ge hk (by omega)), gck (by omega) (by decide), nI_clamp (by omega), hn k hk, if_pos (of_decide_eq_true e)]
  · show b_X3b_findPoint_2 w (nI (nP v)) μ = _
    unfold b_X3b_findPoint_2
    rw [h0, if_pos (nI_le (Nat.le_refl _) (by omega))]
end NF

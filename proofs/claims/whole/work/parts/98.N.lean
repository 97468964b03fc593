/-! names found while reading -/
section NF
variable {v : Nat → Nat → Int32} {μ ρ : gM}
def fLv (v : Nat → Nat → Int32) (w : Int32) : Option Nat := fstN (fun k => decide (v 2 k = w)) (nL v)
def fPv (v : Nat → Nat → Int32) (w : Int32) : Option Nat := fstN (fun k => decide (v 4 k = w)) (nP v)
theorem c_fL (w : Int32) (h0 : gi μ 47 0 = nI (nL v)) (hb : nL v ≤ 3) (hn : ∀ k, k < nL v → gi μ 49 k = v 2 k) : f_X3b_findLevel w μ = some (oI (fLv v w)) := by
  unfold f_X3b_findLevel fLv
  have h := gloop_find (P := fun k => decide (v 2 k = w)) (body := fun t => b_X3b_findLevel_2 w t μ) (nL v) (by omega) (fun k hk e => ?_) (fun k hk e => ?_) ?_
  · rw [show gloop (fun t => b_X3b_findLevel_2 w t μ) gFuel (0 : Int32) = _ from h, Option.bind_some]
    cases fstN (fun k => decide (v 2 k = w)) (nL v) <;> rfl
  · show b_X3b_findLevel_2 w (nI k) μ = _
    unfold b_X3b_findLevel_2
    rw [h0, if_neg (nI_ge hk (by omega)), gck (by omega) (by decide), nI_clamp (by omega), hn k hk, if_neg (of_decide_eq_false e), nI_1]
  · show b_X3b_findLevel_2 w (nI k) μ = _
    unfold b_X3b_findLevel_2
    rw [h0, if_neg (nI_ge hk (by omega)), gck (by omega) (by decide), nI_clamp (by omega), hn k hk, if_pos (of_decide_eq_true e)]
  · show b_X3b_findLevel_2 w (nI (nL v)) μ = _
    unfold b_X3b_findLevel_2
    rw [h0, if_pos (nI_le (Nat.le_refl _) (by omega))]
theorem c_fP (w : Int32) (h0 : gi μ 47 1 = nI (nP v)) (hb : nP v ≤ 16) (hn : ∀ k, k < nP v → gi μ 51 k = v 4 k) : f_X3b_findPoint w μ = some (oI (fPv v w)) := by
  unfold f_X3b_findPoint fPv
  have h := gloop_find (P := fun k => decide (v 4 k = w)) (body := fun t => b_X3b_findPoint_2 w t μ) (nP v) (by omega) (fun k hk e => ?_) (fun k hk e => ?_) ?_
  · rw [show gloop (fun t => b_X3b_findPoint_2 w t μ) gFuel (0 : Int32) = _ from h, Option.bind_some]
    cases fstN (fun k => decide (v 4 k = w)) (nP v) <;> rfl
  · show b_X3b_findPoint_2 w (nI k) μ = _
    unfold b_X3b_findPoint_2
    rw [h0, if_neg (nI_ge hk (by omega)), gck (by omega) (by decide), nI_clamp (by omega), hn k hk, if_neg (of_decide_eq_false e), nI_1]
  · show b_X3b_findPoint_2 w (nI k) μ = _
    unfold b_X3b_findPoint_2
    rw [h0, if_neg (nI_ge hk (by omega)), gck (by omega) (by decide), nI_clamp (by omega), hn k hk, if_pos (of_decide_eq_true e)]
  · show b_X3b_findPoint_2 w (nI (nP v)) μ = _
    unfold b_X3b_findPoint_2
    rw [h0, if_pos (nI_le (Nat.le_refl _) (by omega))]
theorem m_fL (w : Int32) (h0 : gi ρ 67 0 = nI (nL v)) (hb : nL v ≤ 3) (hn : ∀ k, k < nL v → gi ρ 67 (118 + k) = v 2 k) : f_X8_find_67 (0 : Int32) w ρ = some (oI (fLv v w)) := by
  unfold f_X8_find_67 fLv
  rw [if_pos rfl]
  unfold j_X8_find_67_11
  have h := gloop_find (P := fun k => decide (v 2 k = w)) (body := fun t => b_X8_find_67_15 (0 : Int32) w (118 : Int32) t ρ) (nL v) (by omega) (fun k hk e => ?_) (fun k hk e => ?_) ?_
  · rw [show gloop (fun t => b_X8_find_67_15 (0 : Int32) w (118 : Int32) t ρ) gFuel (0 : Int32) = _ from h, Option.bind_some]
    cases fstN (fun k => decide (v 2 k = w)) (nL v) <;> rfl
  · show b_X8_find_67_15 (0 : Int32) w (118 : Int32) (nI k) ρ = _
    unfold b_X8_find_67_15
    rw [show (0 : Int32) + 0 = nI 0 from by decide, gck (by decide) (by decide), nI_clamp (by decide), h0, if_neg (nI_ge hk (by omega)), n118, nI_add, gck (by omega) (by decide), nI_clamp (by omega), hn k hk, if_neg (of_decide_eq_false e), nI_1]
  · show b_X8_find_67_15 (0 : Int32) w (118 : Int32) (nI k) ρ = _
    unfold b_X8_find_67_15
    rw [show (0 : Int32) + 0 = nI 0 from by decide, gck (by decide) (by decide), nI_clamp (by decide), h0, if_neg (nI_ge hk (by omega)), n118, nI_add, gck (by omega) (by decide), nI_clamp (by omega), hn k hk, if_pos (of_decide_eq_true e)]
  · show b_X8_find_67_15 (0 : Int32) w (118 : Int32) (nI (nL v)) ρ = _
    unfold b_X8_find_67_15
    rw [show (0 : Int32) + 0 = nI 0 from by decide, gck (by decide) (by decide), nI_clamp (by decide), h0, if_pos (nI_le (Nat.le_refl _) (by omega))]
theorem m_fP (w : Int32) (h0 : gi ρ 67 1 = nI (nP v)) (hb : nP v ≤ 16) (hn : ∀ k, k < nP v → gi ρ 67 (121 + k) = v 4 k) : f_X8_find_67 (1 : Int32) w ρ = some (oI (fPv v w)) := by
  unfold f_X8_find_67 fPv
  rw [if_neg (by decide)]
  unfold j_X8_find_67_11
  have h := gloop_find (P := fun k => decide (v 4 k = w)) (body := fun t => b_X8_find_67_15 (1 : Int32) w (121 : Int32) t ρ) (nP v) (by omega) (fun k hk e => ?_) (fun k hk e => ?_) ?_
  · rw [show gloop (fun t => b_X8_find_67_15 (1 : Int32) w (121 : Int32) t ρ) gFuel (0 : Int32) = _ from h, Option.bind_some]
    cases fstN (fun k => decide (v 4 k = w)) (nP v) <;> rfl
  · show b_X8_find_67_15 (1 : Int32) w (121 : Int32) (nI k) ρ = _
    unfold b_X8_find_67_15
    rw [show (0 : Int32) + 1 = nI 1 from by decide, gck (by decide) (by decide), nI_clamp (by decide), h0, if_neg (nI_ge hk (by omega)), n121, nI_add, gck (by omega) (by decide), nI_clamp (by omega), hn k hk, if_neg (of_decide_eq_false e), nI_1]
  · show b_X8_find_67_15 (1 : Int32) w (121 : Int32) (nI k) ρ = _
    unfold b_X8_find_67_15
    rw [show (0 : Int32) + 1 = nI 1 from by decide, gck (by decide) (by decide), nI_clamp (by decide), h0, if_neg (nI_ge hk (by omega)), n121, nI_add, gck (by omega) (by decide), nI_clamp (by omega), hn k hk, if_pos (of_decide_eq_true e)]
  · show b_X8_find_67_15 (1 : Int32) w (121 : Int32) (nI (nP v)) ρ = _
    unfold b_X8_find_67_15
    rw [show (0 : Int32) + 1 = nI 1 from by decide, gck (by decide) (by decide), nI_clamp (by decide), h0, if_pos (nI_le (Nat.le_refl _) (by omega))]
end NF

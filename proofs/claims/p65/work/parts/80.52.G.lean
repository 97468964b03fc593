section RG
variable {μ : gM}
/-! what the relation gives -/
theorem nv_at (j i : Nat) (h : j < 13) : nv 34 μ j i = gi μ (34 + j) i := if_pos h
abbrev gP (μ : gM) : Nat := nP (nv 34 μ)
abbrev gLv (μ : gM) : Nat := nL (nv 34 μ)
abbrev gN (μ : gM) : Nat := nN (nv 34 μ)
abbrev gTs (μ : gM) : Nat := nT (nv 34 μ)
abbrev gAc (μ : gM) : Nat := nA (nv 34 μ)
theorem Rel.L (R : Rel μ) : gi μ 34 0 = nI (gLv μ) ∧ gLv μ ≤ 3 := ⟨R.1.1.1, R.1.2.1.1⟩
theorem Rel.P (R : Rel μ) : gi μ 34 1 = nI (gP μ) ∧ gP μ ≤ 16 := ⟨R.1.1.2.1, R.1.2.1.2.1⟩
theorem Rel.N (R : Rel μ) : gi μ 34 2 = nI (gN μ) ∧ gN μ ≤ 20 := ⟨R.1.1.2.2.1, R.1.2.1.2.2.1⟩
theorem Rel.T (R : Rel μ) : gi μ 34 3 = nI (gTs μ) ∧ gTs μ ≤ 6 := ⟨R.1.1.2.2.2.1, R.1.2.1.2.2.2.1⟩
theorem Rel.A (R : Rel μ) : gi μ 34 4 = nI (gAc μ) ∧ gAc μ < 2 ^ gN μ := ⟨R.1.1.2.2.2.2, R.1.2.1.2.2.2.2⟩
theorem Rel.m0 (R : Rel μ) : gi μ 66 0 = nI (gLv μ) := R.2.2.1.1.1.trans R.L.1
theorem Rel.m1 (R : Rel μ) : gi μ 66 1 = nI (gP μ) := R.2.2.1.1.2.1.trans R.P.1
theorem Rel.m2 (R : Rel μ) : gi μ 66 2 = nI (gN μ) := R.2.2.1.1.2.2.1.trans R.N.1
theorem Rel.m3 (R : Rel μ) : gi μ 66 3 = nI (gTs μ) := R.2.2.1.1.2.2.2.trans R.T.1
theorem Rel.m (R : Rel μ) {k n : Nat} (h : (k = 0 ∧ n = gLv μ) ∨ (k = 1 ∧ n = gP μ) ∨ (k = 2 ∧ n = gN μ) ∨ (k = 3 ∧ n = gTs μ)) : gi μ 66 k = nI n := by
  rcases h with ⟨rfl, rfl⟩ | ⟨rfl, rfl⟩ | ⟨rfl, rfl⟩ | ⟨rfl, rfl⟩
  · exact R.m0
  · exact R.m1
  · exact R.m2
  · exact R.m3
theorem ixB {x : Int32} {n : Nat} (hn : n < 2 ^ 31) (h : x < 0 ∨ nI n ≤ x) : f_X7_isIndex x (nI n) μ = some false := by
  unfold f_X7_isIndex
  rcases h with h | h
  · rw [if_pos h]
  · by_cases c : x < 0
    · rw [if_pos c]
    · rw [if_neg c, if_pos h]
theorem ixG {a n : Nat} (hn : n < 2 ^ 31) (h : a < n) : f_X7_isIndex (nI a) (nI n) μ = some true := by
  unfold f_X7_isIndex
  rw [if_neg (nI_pos (by omega)), if_neg (nI_ge h hn)]
theorem pred_lt {n : Nat} (hn : n < 2 ^ 31) (x : Int32) : (nI n - 1 < x) ↔ (nI n ≤ x) := by
  have h1 : (nI n - 1).toInt = (n : Int) - 1 := by
    have h9 : (1 : Int32).toInt = 1 := by decide
    rw [Int32.toInt_sub, nI_toInt hn, h9]
    exact Int.bmod_eq_of_le (by omega) (by omega)
  rw [Int32.lt_iff_toInt_lt, Int32.le_iff_toInt_le, h1, nI_toInt hn]
  omega
end RG
section G1
variable {μ : gM}
theorem si60 (x : Int32) : Fr μ (si μ 60 6 x) := (Fr.rf μ).si rfl
end G1

/-! undo -/
def tkB (K I B : Int32) (M : gM) : Option gM := if K = 0 then gchk (gIn I 16) (some (si M 39 I.toNatClampNeg B)) else if K = 1 then gchk (gIn I 640) (some (si M 44 I.toNatClampNeg B)) else if K = 2 then gchk (gIn I 20) (some (si M 43 I.toNatClampNeg B)) else if K = 3 then some (si M 34 4 B) else if K = 4 then gchk (gIn I 3) (some (si M 37 I.toNatClampNeg B)) else if K = 5 then gchk (gIn I 3) (some (si M 35 I.toNatClampNeg B)) else some M
def tkM (μ : gM) (m q : Nat) : gM := cpl (si (si μ 28 0 (nI m)) 20 2 (μ.1 32 q)) 33 22 (16 * q) 0 16
section GU
variable {μ : gM}
theorem tk_f {m q K : Nat} {i : Nat} {x : Int32} (hK : 34 ≤ K ∧ K < 47) : (∀ k b, k < 34 ∨ 46 < k → (k ≠ 28 ∨ b ≠ 0) → (k ≠ 20 ∨ b ≠ 2) → (si (tkM μ m q) K i x).1 k b = μ.1 k b) ∧ gi (si (tkM μ m q) K i x) 28 0 = nI m ∧ gi (si (tkM μ m q) K i x) 20 2 = μ.1 32 q ∧ (∀ k b, k ≠ 22 → (si (tkM μ m q) K i x).2 k b = μ.2 k b) ∧ ∀ p, p < 16 → (si (tkM μ m q) K i x).2 22 p = μ.2 33 (16 * q + p) := by
  refine ⟨fun k b h1 h2 h3 => ?_, ?_, ?_, fun k b hk => ?_, fun p hp => ?_⟩
  · rw [si1 (by omega)]
    unfold tkM
    simp only [si, cpl]
    rw [if_neg (by omega), if_neg (by omega)]
  · show (si (tkM μ m q) K i x).1 28 0 = _
    rw [si1 (by omega)]; rfl
  · show (si (tkM μ m q) K i x).1 20 2 = _
    rw [si1 (by omega)]; rfl
  · unfold tkM
    simp only [si, cpl]
    rw [if_neg (fun w => hk w.1)]
  · show (if (22 : Nat) = 22 ∧ 0 ≤ p ∧ p < 0 + 16 then μ.2 33 (16 * q + (p - 0)) else μ.2 22 p) = _
    rw [if_pos ⟨rfl, by omega, by omega⟩, Nat.sub_zero]
theorem tk_nv {m q : Nat} : nv 34 (tkM μ m q) = nv 34 μ := nv_cg (fun k i h1 h2 => by
  unfold tkM
  simp only [si, cpl]
  rw [if_neg (by omega), if_neg (by omega)])
end GU

section SLI
variable {μ ρ ν : gM} {n p k : Nat} {v : Nat → Nat → Int32}
/-! a line read -/
theorem NM.c {k i : Nat} {x : Int32} (N : NM v μ ρ) (h : k ≠ 47 ∧ k ≠ 49 ∧ k ≠ 51) : NM v (si μ k i x) ρ := by
  obtain ⟨⟨a1, a2, a3, a4, a5, a6⟩, b⟩ := N
  exact ⟨⟨(gi_sik (by omega)).trans a1, (gi_sik (by omega)).trans a2, a3, a4, fun j hj => (gi_sik (by omega)).trans (a5 j hj), fun j hj => (gi_sik (by omega)).trans (a6 j hj)⟩, b⟩
def lnP (t29 : gM) : Option (Bool × gM) := if ((gi t29 1 5) = (2 : Int32)) then gchk (gIn (0 : Int32) 4) (gchk (gIn (0 : Int32) 4) (Option.bind (f_X4_isIntegerIn (sc 0 (0 : Int32).toNatClampNeg) (sc 1 (0 : Int32).toNatClampNeg) t29) (fun q33 => if ((b2i q33.1) = 0) then some (false, q33.2) else Option.bind (f_X4_fail (-15 : Int32) q33.2) (fun q35 => if ((b2i q35.1) = 0) then some (false, q35.2) else some (true, q35.2))))) else some (true, t29)
theorem lnP_no (h : gi ν 1 5 ≠ 2) : lnP ν = some (true, ν) := if_neg h
theorem lnP_2 (h : gi ν 1 5 = 2) {c : Int32} (a : (f_X4_isIntegerIn 0 40000 ν = some (true, ν) ∧ c = -15) ∨ f_X4_isIntegerIn 0 40000 ν = some (false, si ν 1 8 c)) : lnP ν = some (false, si ν 1 8 c) := by
  unfold lnP
  rw [if_pos h, gckb (by decide), gckb (by decide), show (0 : Int32).toNatClampNeg = 0 by decide, show sc 0 0 = 0 by decide +kernel, show sc 1 0 = 40000 by decide +kernel]
  rcases a with ⟨a, rfl⟩ | a
  · rw [a]; rfl
  · rw [a]; rfl
end SLI

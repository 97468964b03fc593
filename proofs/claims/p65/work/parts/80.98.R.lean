section PM
variable {μ ρ : gM} {n p : Nat} {v : Nat → Nat → Int32}
theorem Tok_d {t : Nat → Int32} {s e : Nat} (h : Tok t n p 2 s e) : s < e ∧ ∀ i, s ≤ i → i < e → dgt (t i) := by
  obtain ⟨a1, a2, a3, a4⟩ := h
  rcases a4 with ⟨c1, c2, c3⟩ | ⟨c1, c2, c3⟩
  · cases c2
  · rcases c3 with ⟨x1, x2, x3, x4, x5, x6⟩ | ⟨x1, x2, x3, x4, x5, x6, -⟩ | ⟨x1, x2, x3, x4⟩
    · cases x2
    · exact ⟨x4, x6⟩
    · exfalso
      by_cases c : t s = 59
      · rw [if_pos c] at x4; cases x4
      · rw [if_neg c] at x4; cases x4
theorem RD.nr (R : RD n p μ ρ) (h : gi μ 1 5 = 2) : NRl (gi μ 1 7) (gi ρ 60 16) := by
  obtain ⟨⟨k, s, e, a, b⟩, x, y⟩ := R
  have T := Tok_le a.2.2.1
  have k2 : k = 2 := (nI_eq (b := 2) (by omega) (by decide)).mp (a.2.2.2.2.2.1.symm.trans h)
  subst k2
  rw [a.2.2.2.2.2.2.2 rfl, b.2.2.2.2.2.2 rfl]
  exact (nr_all (e - s) (fun j h1 h2 => (Tok_d a.2.2.1).2 j h1 (by omega))).1
/-- the names of both sides are those of v -/
def NM (v : Nat → Nat → Int32) (μ ρ : gM) : Prop := (gi μ 47 0 = nI (nL v) ∧ gi μ 47 1 = nI (nP v) ∧ nL v ≤ 3 ∧ nP v ≤ 16 ∧ (∀ k, k < nL v → gi μ 49 k = v 2 k) ∧ ∀ k, k < nP v → gi μ 51 k = v 4 k) ∧ gi ρ 67 0 = nI (nL v) ∧ gi ρ 67 1 = nI (nP v) ∧ (∀ k, k < nL v → gi ρ 67 (118 + k) = v 2 k) ∧ ∀ k, k < nP v → gi ρ 67 (121 + k) = v 4 k
theorem NM.m {ρ2 : gM} (N : NM v μ ρ) (h : ∀ i, ρ2.1 67 i = ρ.1 67 i) : NM v μ ρ2 := ⟨N.1, (h 0).trans N.2.1, (h 1).trans N.2.2.1, fun k hk => (h _).trans (N.2.2.2.1 k hk), fun k hk => (h _).trans (N.2.2.2.2 k hk)⟩
theorem mE_o {k i : Nat} {c : Int32} (h : k ≠ 60 ∨ (i ≠ 17 ∧ i ≠ 18)) : (mE c ρ).1 k i = ρ.1 k i := by
  show gi (si (si ρ 60 17 c) 60 18 _) k i = gi ρ k i
  rw [gi_si, if_neg (by omega), gi_si, if_neg (by omega)]
theorem NM.E (N : NM v μ ρ) (c : Int32) : NM v μ (mE c ρ) := N.m (fun i => mE_o (by omega))
theorem c_fLN (N : NM v μ ρ) (w : Int32) : f_X3b_findLevel w μ = some (oI (fLv v w)) := c_fL w N.1.1 N.1.2.2.1 N.1.2.2.2.2.1
theorem c_fPN (N : NM v μ ρ) (w : Int32) : f_X3b_findPoint w μ = some (oI (fPv v w)) := c_fP w N.1.2.1 N.1.2.2.2.1 N.1.2.2.2.2.2
theorem fLv_lt {w : Int32} {k : Nat} (h : fLv v w = some k) : k < nL v := (fstN_lt h).1
theorem fPv_lt {w : Int32} {k : Nat} (h : fPv v w = some k) : k < nP v := (fstN_lt h).1
theorem oI_nm {k : Nat} (h : k < 2 ^ 31) : ¬ oI (some k) = -1 := fun w => nI_pos h (show nI k < 0 by rw [show nI k = -1 from w]; decide)
end PM

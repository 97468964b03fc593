theorem bF : (b2i false = 0) = True := eq_true rfl
theorem bT : (b2i true = 0) = False := eq_false (by decide)
def wrapI (fC : Option (Option Int32)) (μ : gM) : Option (Int32 × gM) := Option.bind fC (fun q1 => Option.elim q1 (some ((1 : Int32), μ)) (fun v2 => gchk (gIn (0 : Int32) 1) (some ((0 : Int32), (sl μ 77 (0 : Int32).toNatClampNeg v2.toInt64)))))
def wrapJ (fC : Option (Option Int64)) (μ : gM) : Option (Int32 × gM) := Option.bind fC (fun q1 => Option.elim q1 (some ((1 : Int32), μ)) (fun v2 => gchk (gIn (0 : Int32) 1) (some ((0 : Int32), (sl μ 77 (0 : Int32).toNatClampNeg v2)))))
section MC
variable {v : Nat → Nat → Int32} {ν : gM}
theorem MO.cL (M : MO v ν) : gi ν 66 0 = nI (nL v) := M.2.2.1.1.trans M.1.1.1
theorem MO.cP (M : MO v ν) : gi ν 66 1 = nI (nP v) := M.2.2.1.2.1.trans M.1.1.2.1
theorem MO.cN (M : MO v ν) : gi ν 66 2 = nI (nN v) := M.2.2.1.2.2.1.trans M.1.1.2.2.1
theorem MO.cT (M : MO v ν) : gi ν 66 3 = nI (nT v) := M.2.2.1.2.2.2.trans M.1.1.2.2.2.1
theorem MO.si6 (M : MO v ν) (x : Int32) : MO v (si ν 60 6 x) := M.fr (si60 x)
end MC
theorem ix3 (x : Int32) {n : Nat} (hn : n < 2 ^ 31) : (x < 0 ∨ nI n ≤ x) ∨ ∃ a, a < n ∧ x = nI a := by
  rcases pk_ix x hn with h | h | h
  · exact Or.inl (Or.inl h)
  · exact Or.inl (Or.inr h)
  · exact Or.inr h
def prp (v : Nat → Nat → Int32) (k : Nat) (x : Int32) : Int32 := if x = 0 then nI (fs v k) else if x = 1 then nI (sn v k) else if x = 2 then nI (lv v k) else if x = 3 then nI (ct v k) else if x = 4 then (if (nA v).testBit k then 1 else 0) else if x = 5 then nI (ln v k) else if x = 6 then nI (1000000 / ln v k) else -2
section G2
variable {v : Nat → Nat → Int32} {μ ν : gM} {k : Nat}
end G2
section G3
variable {μ : gM}
end G3

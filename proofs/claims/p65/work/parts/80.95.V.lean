/-! what tokens are worth: numbers and words of the two sides -/
theorem nx_or (a b : Nat) : nI a ||| nI b = nI (a ||| b) := by
  refine Int32.toBitVec_inj.mp ?_
  rw [Int32.toBitVec_or]
  show BitVec.ofNat 32 a ||| BitVec.ofNat 32 b = BitVec.ofNat 32 (a ||| b)
  refine BitVec.eq_of_getLsbD_eq (fun i hi => ?_)
  rw [BitVec.getLsbD_or, BitVec.getLsbD_ofNat, BitVec.getLsbD_ofNat, BitVec.getLsbD_ofNat, Nat.testBit_or]
  simp [hi]
theorem lx_or (a b : Nat) : lN a ||| lN b = lN (a ||| b) := by
  refine Int64.toBitVec_inj.mp ?_
  rw [Int64.toBitVec_or]
  show BitVec.ofNat 64 a ||| BitVec.ofNat 64 b = BitVec.ofNat 64 (a ||| b)
  refine BitVec.eq_of_getLsbD_eq (fun i hi => ?_)
  rw [BitVec.getLsbD_or, BitVec.getLsbD_ofNat, BitVec.getLsbD_ofNat, BitVec.getLsbD_ofNat, Nat.testBit_or]
  simp [hi]
theorem nx_sum {a k : Nat} (b : Nat) (h : a < 2 ^ k) : nI (2 ^ k * b) ||| nI a = nI (2 ^ k * b + a) := by
  rw [nx_or, Nat.two_pow_add_eq_or_of_lt h]
theorem lx_sum {a k : Nat} (b : Nat) (h : a < 2 ^ k) : lN (2 ^ k * b) ||| lN a = lN (2 ^ k * b + a) := by
  rw [lx_or, Nat.two_pow_add_eq_or_of_lt h]
theorem lx_shl5 (a : Nat) : lN a <<< ((5 : Int32).toInt64 &&& 63) = lN (a * 2 ^ 5) := by
  refine Int64.toBitVec_inj.mp ?_
  rw [Int64.toBitVec_shiftLeft, show ((5 : Int32).toInt64 &&& 63).toBitVec.smod 64 = 5#64 by decide +kernel]
  show BitVec.ofNat 64 a <<< 5#64 = BitVec.ofNat 64 (a * 2 ^ 5)
  refine BitVec.eq_of_toNat_eq ?_
  rw [BitVec.shiftLeft_eq', BitVec.toNat_shiftLeft, BitVec.toNat_ofNat, BitVec.toNat_ofNat, Nat.shiftLeft_eq]
  show a % 2 ^ 64 * 2 ^ 5 % 2 ^ 64 = a * 2 ^ 5 % 2 ^ 64
  rw [Nat.mod_mul_mod]
section VA
variable {t : Nat → Int32} {n p s : Nat}
/-- the numbers of the two sides: the same, or both too great -/
def NRl (x y : Int32) : Prop := (x = y ∧ 0 ≤ x.toInt ∧ x.toInt ≤ 9999999) ∨ (9999999 < x.toInt ∧ 9999999 < y.toInt)
theorem dgt_i {x : Int32} (h : dgt x) : 48 ≤ x.toInt ∧ x.toInt ≤ 57 := by
  obtain ⟨h1, h2⟩ := h
  rw [Int32.lt_iff_toInt_lt] at h1 h2
  have e1 : (48 : Int32).toInt = 48 := by decide
  have e2 : (57 : Int32).toInt = 57 := by decide
  omega
theorem ltr_i {x : Int32} (h : ltr x) : 97 ≤ x.toInt ∧ x.toInt ≤ 122 := by
  obtain ⟨h1, h2⟩ := h
  rw [Int32.lt_iff_toInt_lt] at h1 h2
  have e1 : (97 : Int32).toInt = 97 := by decide
  have e2 : (122 : Int32).toInt = 122 := by decide
  omega
theorem nr_all : ∀ i, (∀ j, s ≤ j → j < s + i → dgt (t j)) → NRl (nbC t s i) (nbM t s i) ∧ (nbC t s i).toInt ≤ 99999999
  | 0, _ => ⟨Or.inl ⟨rfl, (show 0 ≤ (0 : Int32).toInt by decide), (show (0 : Int32).toInt ≤ 9999999 by decide)⟩, (show (0 : Int32).toInt ≤ 99999999 by decide)⟩
  | i + 1, h => by
    have d := dgt_i (h (s + i) (by omega) (by omega))
    obtain ⟨ih, ub⟩ := nr_all i (fun j h1 h2 => h j h1 (by omega))
    have e0 : (9999999 : Int32).toInt = 9999999 := by decide
    have e1 : (100000000 : Int32).toInt = 100000000 := by decide
    have e10 : (10 : Int32).toInt = 10 := by decide
    have e48 : (48 : Int32).toInt = 48 := by decide
    have cs : nbC t s (i + 1) = if (9999999 : Int32) < nbC t s i then nbC t s i else ((10 : Int32) * nbC t s i) + (t (s + i) - 48) := rfl
    have ms : nbM t s (i + 1) = if nbM t s i ≤ (100000000 : Int32) then ((10 : Int32) * nbM t s i + t (s + i)) - 48 else 1000000000 := rfl
    generalize nbC t s i = x at *
    generalize nbM t s i = y at *
    generalize t (s + i) = z at *
    have stepC : 0 ≤ x.toInt → x.toInt ≤ 9999999 → (((10 : Int32) * x) + (z - 48)).toInt = 10 * x.toInt + (z.toInt - 48) := fun h1 h2 => by
      rw [Int32.toInt_add, Int32.toInt_mul, Int32.toInt_sub, e10, e48, Int.bmod_eq_of_le (n := z.toInt - 48) (by omega) (by omega), Int.bmod_eq_of_le (n := 10 * x.toInt) (by omega) (by omega), Int.bmod_eq_of_le (by omega) (by omega)]
    have stepM : 0 ≤ y.toInt → y.toInt ≤ 100000000 → ((((10 : Int32) * y) + z) - 48).toInt = 10 * y.toInt + z.toInt - 48 := fun h1 h2 => by
      rw [Int32.toInt_sub, Int32.toInt_add, Int32.toInt_mul, e10, e48, Int.bmod_eq_of_le (n := 10 * y.toInt) (by omega) (by omega), Int.bmod_eq_of_le (n := 10 * y.toInt + z.toInt) (by omega) (by omega), Int.bmod_eq_of_le (by omega) (by omega)]
    rcases ih with ⟨a1, a2, a3⟩ | ⟨a1, a2⟩
    · subst a1
      have s1 := stepC a2 a3
      have s2 := stepM a2 (by omega)
      rw [if_neg (fun w => by rw [Int32.lt_iff_toInt_lt] at w; omega)] at cs
      rw [if_pos (by rw [Int32.le_iff_toInt_le]; omega)] at ms
      rw [cs, ms]
      have eq : ((10 : Int32) * x) + (z - 48) = ((10 : Int32) * x + z) - 48 := Int32.toInt_inj.mp (by omega)
      refine ⟨?_, by omega⟩
      by_cases c : 10 * x.toInt + (z.toInt - 48) ≤ 9999999
      · exact Or.inl ⟨eq, by omega, by omega⟩
      · exact Or.inr ⟨by omega, by omega⟩
    · rw [if_pos (by rw [Int32.lt_iff_toInt_lt]; omega)] at cs
      rw [cs]
      refine ⟨Or.inr ⟨a1, ?_⟩, ub⟩
      rw [ms]
      by_cases c : y ≤ (100000000 : Int32)
      · rw [if_pos c]
        rw [Int32.le_iff_toInt_le] at c
        rw [stepM (by omega) (by omega)]; omega
      · rw [if_neg c]; decide
/-- a word as a number -/
def w32 (t : Nat → Int32) (s : Nat) : Nat → Nat
  | 0 => 0
  | i + 1 => 32 * w32 t s i + ((t (s + i)).toInt - 96).toNat
theorem ltr_c {x : Int32} (h : ltr x) : (x - 97) + 1 = nI (x.toInt - 96).toNat ∧ x - 96 = nI (x.toInt - 96).toNat ∧ 1 ≤ (x.toInt - 96).toNat ∧ (x.toInt - 96).toNat ≤ 26 := by
  have b := ltr_i h
  have e97 : (97 : Int32).toInt = 97 := by decide
  have e96 : (96 : Int32).toInt = 96 := by decide
  have e1 : (1 : Int32).toInt = 1 := by decide
  refine ⟨Int32.toInt_inj.mp ?_, Int32.toInt_inj.mp ?_, by omega, by omega⟩
  · rw [nI_toInt (by omega), Int32.toInt_add, Int32.toInt_sub, e97, e1, Int.bmod_eq_of_le (n := x.toInt - 97) (by omega) (by omega), Int.bmod_eq_of_le (by omega) (by omega)]
    omega
  · rw [nI_toInt (by omega), Int32.toInt_sub, e96, Int.bmod_eq_of_le (by omega) (by omega)]
    omega
theorem w32_lt : ∀ i, (∀ j, s ≤ j → j < s + i → ltr (t j)) → w32 t s i < 32 ^ i
  | 0, _ => Nat.lt_succ_self 0
  | i + 1, h => by
    have c := ltr_c (h (s + i) (by omega) (by omega))
    have ih := w32_lt i (fun j h1 h2 => h j h1 (by omega))
    show 32 * w32 t s i + _ < 32 ^ (i + 1)
    rw [Nat.pow_succ]
    omega
theorem wdM_e : ∀ i, i ≤ 12 → (∀ j, s ≤ j → j < s + i → ltr (t j)) → wdM t s i = lN (w32 t s i)
  | 0, _, _ => rfl
  | i + 1, hi, h => by
    have c := ltr_c (h (s + i) (by omega) (by omega))
    have ih := wdM_e i (by omega) (fun j h1 h2 => h j h1 (by omega))
    show (if 12 ≤ i then (0 : Int64) else (wdM t s i <<< ((5 : Int32).toInt64 &&& 63)) ||| (t (s + i) - 96).toInt64) = lN (32 * w32 t s i + ((t (s + i)).toInt - 96).toNat)
    rw [if_neg (by omega), ih, lx_shl5, c.2.1, nI_l (by omega), Nat.mul_comm]
    exact lx_sum (k := 5) _ (by omega)
theorem shW : ∀ i, i < 6 → 32 ^ (6 - i) = 32 * 2 ^ (5 * (5 - i)) ∧ 2 ^ (5 * (6 - i)) = 32 * 2 ^ (5 * (5 - i)) ∧ 32 ^ (6 - (i + 1)) = 2 ^ (5 * (5 - i)) ∧ ((((5 : Int32) * ((5 : Int32) - nI i)) &&& 31).toBitVec.smod 32).toNat = 5 * (5 - i) ∧ 2 ^ (5 * (5 - i)) ≤ 33554432 := by decide +kernel
theorem wdC_e : ∀ i, i ≤ 6 → (∀ j, s ≤ j → j < s + i → ltr (t j)) → wdC t s i = nI (w32 t s i * 32 ^ (6 - i))
  | 0, _, _ => by show (0 : Int32) = nI (0 * _); rw [Nat.zero_mul]; rfl
  | i + 1, hi, h => by
    have c := ltr_c (h (s + i) (by omega) (by omega))
    have ih := wdC_e i (by omega) (fun j h1 h2 => h j h1 (by omega))
    obtain ⟨q1, q2, q3, q4, q5⟩ := shW i (by omega)
    show (if 6 ≤ i then wdC t s i else wdC t s i ||| (((t (s + i) - 97) + 1) <<< (((5 : Int32) * ((5 : Int32) - nI i)) &&& 31))) = nI ((32 * w32 t s i + ((t (s + i)).toInt - 96).toNat) * 32 ^ (6 - (i + 1)))
    generalize ((t (s + i)).toInt - 96).toNat = d at *
    rw [if_neg (by omega), ih, c.1, pk_shlN _ (5 * (5 - i)) q4 (by
      have := Nat.mul_le_mul (show d ≤ 26 by omega) q5
      omega), q3, q1]
    have e : w32 t s i * (32 * 2 ^ (5 * (5 - i))) = 2 ^ (5 * (6 - i)) * w32 t s i := by rw [q2, Nat.mul_comm]
    have lt : d * 2 ^ (5 * (5 - i)) < 2 ^ (5 * (6 - i)) := by
      rw [q2]
      exact Nat.mul_lt_mul_of_pos_right (by omega) (Nat.two_pow_pos _)
    rw [e, nx_sum (k := 5 * (6 - i)) _ lt, ← e, Nat.add_mul]
    congr 2
    rw [Nat.mul_left_comm, Nat.mul_assoc]
end VA

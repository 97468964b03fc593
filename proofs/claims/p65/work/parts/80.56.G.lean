/-! absolute values, faults, names, settings, tests -/
theorem iabs_toInt {x : Int32} (h : -2147483648 < x.toInt) : (iabs x).toInt = (x.toInt.natAbs : Int) := by
  have h2 := Int32.toInt_lt x
  have z : (0 : Int32).toInt = 0 := by decide
  unfold iabs
  by_cases c : 0 ≤ x
  · rw [if_pos c]
    rw [Int32.le_iff_toInt_le, z] at c
    omega
  · rw [if_neg c]
    rw [Int32.le_iff_toInt_le, z] at c
    rw [Int32.toInt_sub, z, Int.bmod_eq_of_le (by omega) (by omega)]
    omega
def lsN (v : Nat → Nat → Int32) (k : Nat) : Nat → Nat
  | 0 => 0
  | n + 1 => lsN v k n + (if v 10 (32 * k + 4 * n + 2) ≤ v 1 1 then 0 else 1) + (if v 10 (32 * k + 4 * n + 3) ≤ v 1 1 then 0 else 1)
theorem lsN_le (v : Nat → Nat → Int32) (k n : Nat) : lsN v k n ≤ 2 * n := by
  induction n with
  | zero => exact Nat.le_refl _
  | succ n ih =>
    unfold lsN
    split <;> split <;> omega
def tv (v : Nat → Nat → Int32) (t i : Nat) : Int32 := v 12 (8 * t + i)
def apt (v : Nat → Nat → Int32) (t : Nat) : Int32 := (tv v t 0 - tv v t 1) - (tv v t 4 - tv v t 5)
def dvr (v : Nat → Nat → Int32) (t : Nat) : Int32 := (tv v t 2 - tv v t 3) - (tv v t 6 - tv v t 7)
def res (v : Nat → Nat → Int32) (t : Nat) : Int32 := if dvr v t = 0 then -2147483648 else if (100 : Int32) * apt v t / dvr v t < -200 then -2147483648 else if (100 : Int32) * apt v t / dvr v t ≤ 200 then (100 : Int32) * apt v t / dvr v t else -2147483648
section G5
variable {v : Nat → Nat → Int32} {μ ν : gM}
theorem sm_b {k : Nat} (H : LI v k) {w : Nat} (hw : w < 4) (h2 : 2 ≤ w) : sm v k w (ct v k) ≤ 800 := by
  have := (sm_le H hw h2 _ (Nat.le_refl _)).2
  have := H.cnt
  omega
theorem c_tv (C : CO v μ) (t i : Nat) : gi μ 46 (8 * t + i) = tv v t i := C.at 12 _ (by decide)
theorem ix2 (t i : Nat) : t * 2 * 4 + i = 8 * t + i := by omega
theorem ix20 (t : Nat) : t * 2 * 4 = 8 * t + 0 := by omega
end G5

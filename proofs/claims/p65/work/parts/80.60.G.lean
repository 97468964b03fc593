/-! carried heights: the operations that ask for them -/
theorem c_has {v : Nat → Nat → Int32} {μ : gM} {k : Nat} (C : CO v μ) (hk : k < nN v) (x : Int32) : f_X3_hasSetup (nI k) x μ = f_X7_isIndex x (nI (ct v k)) μ := by
  have hb := C.1.b
  unfold f_X3_hasSetup
  rw [gck (by omega) (by decide), nI_clamp (by omega), c_ct C hk]
  cases f_X7_isIndex x (nI (ct v k)) μ <;> rfl
def thS (v : Nat → Nat → Int32) (k : Nat) (x : Int64) : Nat → Int64
  | 0 => x
  | s + 1 => thS v k x s + (stp v k s).toInt64
def rcS (v : Nat → Nat → Int32) : Nat → Int32
  | 0 => 0
  | p + 1 => if pv v p = noH then rcS v p else rcS v p ||| ((1 : Int32) <<< (nI p &&& 31))
def rd1 (v : Nat → Nat → Int32) : Nat → Int32
  | 0 => 0
  | k + 1 => if (nA v).testBit k = true ∧ ¬ pv v (fs v k) = noH ∧ ¬ pv v (sn v k) = noH then rd1 v k + 1 else rd1 v k
def rd2 (v : Nat → Nat → Int32) : Nat → Int32
  | 0 => rd1 v (nN v)
  | p + 1 => if ¬ pv v p = noH ∧ v 5 p = -1 then rd2 v p + (-1) else rd2 v p
section G6
variable {μ : gM}
end G6

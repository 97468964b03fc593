/-! a weighted mean, rounded to the nearest -/
theorem xor_sign {x y : Int64} (hy : 0 < y.toInt) : (0 : Int64) ≤ x ^^^ y ↔ 0 ≤ x.toInt := by
  have z : (0 : Int64).toInt = 0 := by decide
  have e : (x ^^^ y).toBitVec = x.toBitVec ^^^ y.toBitVec := by simp
  have h1 : (x ^^^ y).toBitVec.msb = decide ((x ^^^ y).toInt < 0) := BitVec.msb_eq_toInt
  have h2 : x.toBitVec.msb = decide (x.toInt < 0) := BitVec.msb_eq_toInt
  have h3 : y.toBitVec.msb = decide (y.toInt < 0) := BitVec.msb_eq_toInt
  rw [e, BitVec.msb_xor, h2, h3, decide_eq_false (p := y.toInt < 0) (by omega), Bool.xor_false] at h1
  have h4 := decide_eq_decide.mp h1
  rw [Int64.le_iff_toInt_le, z]
  omega
theorem ws_st {W w y D s : Int} (hW : 0 ≤ W ∧ W ≤ 10000000) (hw : 1 ≤ w ∧ w ≤ 500000) (hy : -D ≤ y ∧ y ≤ D) (hD : 0 ≤ D ∧ D ≤ 200032800000) (hs : -(W * D) ≤ s ∧ s ≤ W * D) : (-200000000000000000 ≤ w * y ∧ w * y ≤ 200000000000000000) ∧ (-4000000000000000000 ≤ s + w * y ∧ s + w * y ≤ 4000000000000000000) ∧ -((W + w) * D) ≤ s + w * y ∧ s + w * y ≤ (W + w) * D := by
  have m1 := mul_bnd (a := w) (b := y) (A := w) (B := D) ⟨by omega, by omega⟩ hy
  have h1 : w * D ≤ 500000 * D := Int.mul_le_mul_of_nonneg_right hw.2 hD.1
  have h2 : W * D ≤ 10000000 * D := Int.mul_le_mul_of_nonneg_right hW.2 hD.1
  rw [Int.add_mul]
  omega
section WM
variable {v : Nat → Nat → Int32}
abbrev tT (v : Nat → Nat → Int32) (k p : Nat) : Prop := brT (fs v) (sn v) (nA v) k p
abbrev oO (v : Nat → Nat → Int32) (k p : Nat) : Nat := brO (fs v) (sn v) k p
def wgt (v : Nat → Nat → Int32) (k : Nat) : Int64 := (nI (1000000 / ln v k)).toInt64
def wsm (v : Nat → Nat → Int32) (A : Nat → Int64) (p : Nat) : Nat → Int64 × Int64
  | 0 => (0, 0)
  | k + 1 => if tT v k p then ((wsm v A p k).1 + wgt v k * (A (oO v k p) + (rfr v (oO v k p) k).toInt64), (wsm v A p k).2 + wgt v k) else wsm v A p k
theorem wgt_b (C : CI v) {k : Nat} (hk : k < nN v) : 1 ≤ (wgt v k).toInt ∧ (wgt v k).toInt ≤ 500000 := by
  have h := (C.line hk).lnb
  have h1 : 625 ≤ 1000000 / ln v k := (Nat.le_div_iff_mul_le (by omega)).mpr (by omega)
  have h2 : 1000000 / ln v k ≤ 500000 := by
    exact Nat.le_trans (Nat.div_le_div_left h.1 (by decide)) (by decide)
  unfold wgt
  rw [nI_l (by omega), pk_lT (by omega)]
  omega
/-- the sums stay in bounds where all that is asked for does -/
theorem wsm_b (C : CI v) {A : Nat → Int64} {p : Nat} {B : Int} (hB9 : 0 ≤ B ∧ B ≤ 200000000000) (hA : ∀ k, k < nN v → tT v k p → -B ≤ (A (oO v k p)).toInt ∧ (A (oO v k p)).toInt ≤ B) : ∀ k, k ≤ nN v → 0 ≤ (wsm v A p k).2.toInt ∧ (wsm v A p k).2.toInt ≤ 500000 * (k : Int) ∧ -((wsm v A p k).2.toInt * (B + 32800000)) ≤ (wsm v A p k).1.toInt ∧ (wsm v A p k).1.toInt ≤ (wsm v A p k).2.toInt * (B + 32800000) ∧ ((∃ j, j < k ∧ tT v j p) → 1 ≤ (wsm v A p k).2.toInt)
  | 0, _ => by
    have z : (0 : Int64).toInt = 0 := by decide
    show 0 ≤ (0 : Int64).toInt ∧ (0 : Int64).toInt ≤ _ ∧ -((0 : Int64).toInt * _) ≤ (0 : Int64).toInt ∧ (0 : Int64).toInt ≤ (0 : Int64).toInt * _ ∧ _
    rw [z, Int.zero_mul]
    exact ⟨by omega, by omega, by omega, by omega, fun ⟨j, hj, _⟩ => absurd hj (Nat.not_lt_zero _)⟩
  | k + 1, hk => by
    obtain ⟨a1, a2, a3, a4, a5⟩ := wsm_b C hB9 hA k (by omega)
    have hb := C.b
    by_cases c : tT v k p
    · rw [show wsm v A p (k + 1) = _ from if_pos c]
      show 0 ≤ ((wsm v A p k).2 + wgt v k).toInt ∧ ((wsm v A p k).2 + wgt v k).toInt ≤ _ ∧ -(((wsm v A p k).2 + wgt v k).toInt * _) ≤ ((wsm v A p k).1 + wgt v k * (A (oO v k p) + (rfr v (oO v k p) k).toInt64)).toInt ∧ ((wsm v A p k).1 + wgt v k * (A (oO v k p) + (rfr v (oO v k p) k).toInt64)).toInt ≤ ((wsm v A p k).2 + wgt v k).toInt * _ ∧ _
      have w1 := wgt_b C (k := k) (by omega)
      have r1 := rfr_b C (k := k) (by omega) (oO v k p)
      have o1 := hA k (by omega) c
      have e1 : (A (oO v k p) + (rfr v (oO v k p) k).toInt64).toInt = (A (oO v k p)).toInt + (rfr v (oO v k p) k).toInt := by
        rw [i64_add (by rw [Int32.toInt_toInt64]; omega), Int32.toInt_toInt64]
      have e2 : ((wsm v A p k).2 + wgt v k).toInt = (wsm v A p k).2.toInt + (wgt v k).toInt := i64_add (by omega)
      obtain ⟨s1, s2, s3, s4⟩ := ws_st (W := (wsm v A p k).2.toInt) (w := (wgt v k).toInt) (y := (A (oO v k p) + (rfr v (oO v k p) k).toInt64).toInt) (D := B + 32800000) (s := (wsm v A p k).1.toInt) ⟨a1, by omega⟩ w1 (by rw [e1]; omega) (by omega) ⟨a3, a4⟩
      have e3 : (wgt v k * (A (oO v k p) + (rfr v (oO v k p) k).toInt64)).toInt = (wgt v k).toInt * (A (oO v k p) + (rfr v (oO v k p) k).toInt64).toInt := i64_mul (by omega)
      have e4 : ((wsm v A p k).1 + wgt v k * (A (oO v k p) + (rfr v (oO v k p) k).toInt64)).toInt = (wsm v A p k).1.toInt + (wgt v k).toInt * (A (oO v k p) + (rfr v (oO v k p) k).toInt64).toInt := by rw [i64_add (by rw [e3]; omega), e3]
      rw [e2, e4]
      exact ⟨by omega, by omega, s3, s4, fun _ => by omega⟩
    · rw [show wsm v A p (k + 1) = _ from if_neg c]
      refine ⟨a1, by omega, a3, a4, fun ⟨j, hj, ht⟩ => a5 ⟨j, ?_, ht⟩⟩
      have : j ≠ k := fun w => c (w ▸ ht)
      omega
end WM

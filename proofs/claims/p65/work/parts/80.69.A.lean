/-! a weighted mean, rounded to the nearest -/
theorem xor_sign {x y : Int64} (hy : 0 < y.toInt) : (0 : Int64) ≤ x ^^^ y ↔ 0 ≤ x.toInt := by
  have z : (0 : Int64).toInt = 0 := by decide
  have e : (x ^^^ y).toBitVec = x.toBitVec ^^^ y.toBitVec := by simp
  have h1 : (x ^^^ y).toBitVec.msb = decide ((x ^^^ y).toInt < 0) := BitVec.msb_eq_toInt
  have h2 : x.toBitVec.msb = decide (x.toInt < 0) := BitVec.msb_eq_toInt
  have h3 : y.toBitVec.msb = decide (y.toInt < 0) := BitVec.msb_eq_toInt
  rw [e, BitVec.msb_xor, h2, h3, decide_eq_false (p := y.toInt < 0) (by omega), Bool.xor_false] at h1
  have h4 := decide_eq_decide.mp h1
  rw [Int64.le_iff_toInt_le, z]
  omega
/-- both sides' quotient, rounded down -/
theorem fl_both {x y : Int64} (μ ν : gM) (hy : 0 < y.toInt) : ∃ z, f_J9_floorDiv_f86c9 x y μ = some z ∧ f_J9_floorDiv_f86c9 x y ν = some z ∧ y.toInt * z.toInt ≤ x.toInt ∧ x.toInt < y.toInt * z.toInt + y.toInt := by
  have z0 : (0 : Int64).toInt = 0 := by decide
  have z1 : (1 : Int64).toInt = 1 := by decide
  have hx1 := Int64.le_toInt x
  have hx2 := Int64.toInt_lt x
  have hy2 := Int64.toInt_lt y
  have yn : ¬ y = 0 := fun w => by rw [w, z0] at hy; omega
  have yn1 : y ≠ -1 := fun w => by
    have : (-1 : Int64).toInt = -1 := by decide
    rw [w, this] at hy; omega
  have e1 : (x / y).toInt = x.toInt.tdiv y.toInt := Int64.toInt_div_of_ne_right x y yn1
  have d1 := Int.mul_tdiv_add_tmod x.toInt y.toInt
  have d2 := Int.tmod_lt_of_pos x.toInt hy
  have d3 := Int.lt_tmod_of_pos x.toInt hy
  have d4 : 0 ≤ x.toInt → 0 ≤ x.toInt.tmod y.toInt := fun h => Int.tmod_nonneg _ h
  have d5 : x.toInt ≤ 0 → x.toInt.tmod y.toInt ≤ 0 := fun h => by
    have := Int.tmod_nonneg y.toInt (show 0 ≤ -x.toInt by omega)
    rw [Int.neg_tmod] at this; omega
  generalize x.toInt.tdiv y.toInt = t at *
  generalize x.toInt.tmod y.toInt = r at *
  have e2 : (x / y * y).toInt = y.toInt * t := by
    rw [i64_mul (by rw [e1, Int.mul_comm]; by_cases h : 0 ≤ x.toInt
                    · have := d4 h; omega
                    · have := d5 (by omega); omega), e1, Int.mul_comm]
  have e3 : (x - x / y * y).toInt = r := by
    rw [i64_sub (by rw [e2]; by_cases h : 0 ≤ x.toInt
                    · have := d4 h; omega
                    · have := d5 (by omega); omega), e2]; omega
  unfold f_J9_floorDiv_f86c9
  rw [gckb yn]
  by_cases hr : 0 ≤ r
  · refine ⟨x / y, ?_, ?_, by rw [e1]; omega, by rw [e1]; omega⟩
    · by_cases hx : 0 ≤ x.toInt
      · rw [if_pos ((xor_sign hy).mpr hx)]
      · rw [if_neg (fun w => hx ((xor_sign hy).mp w)), if_pos (Int64.toInt_inj.mp (by rw [e2]; have := d5 (by omega); omega))]
    · by_cases hx : 0 ≤ x.toInt
      · rw [if_pos ((xor_sign hy).mpr hx)]
      · rw [if_neg (fun w => hx ((xor_sign hy).mp w)), if_pos (Int64.toInt_inj.mp (by rw [e2]; have := d5 (by omega); omega))]
  · have hx : ¬ 0 ≤ x.toInt := fun h => hr (d4 h)
    have tb : -9223372036854775808 ≤ t - 1 ∧ t - 1 < 9223372036854775808 := by
      have h1 := Int64.le_toInt (x / y)
      rw [e1] at h1
      have h2 := Int64.toInt_lt (x / y)
      rw [e1] at h2
      refine ⟨?_, by omega⟩
      by_cases c : y.toInt = 1
      · rw [c] at d1 d2 d3; omega
      · have hp : y.toInt * t ≥ -9223372036854775808 := by omega
        have : t > -9223372036854775808 := by
          refine Int.not_le.mp (fun w => ?_)
          have := Int.mul_le_mul_of_nonneg_left w (show 0 ≤ y.toInt by omega)
          omega
        omega
    have e4 : (x / y - 1).toInt = t - 1 := by rw [i64_sub (by rw [e1, z1]; omega), e1, z1]
    refine ⟨x / y - 1, ?_, ?_, by rw [e4, Int.mul_sub, Int.mul_one]; omega, by rw [e4, Int.mul_sub, Int.mul_one]; omega⟩
    · rw [if_neg (fun w => hx ((xor_sign hy).mp w)), if_neg (fun w => by
        have := congrArg Int64.toInt w
        rw [e2] at this; omega)]
    · rw [if_neg (fun w => hx ((xor_sign hy).mp w)), if_neg (fun w => by
        have := congrArg Int64.toInt w
        rw [e2] at this; omega)]
theorem ws_st {W w y D s : Int} (hW : 0 ≤ W ∧ W ≤ 10000000) (hw : 1 ≤ w ∧ w ≤ 500000) (hy : -D ≤ y ∧ y ≤ D) (hD : 0 ≤ D ∧ D ≤ 200032800000) (hs : -(W * D) ≤ s ∧ s ≤ W * D) : (-200000000000000000 ≤ w * y ∧ w * y ≤ 200000000000000000) ∧ (-4000000000000000000 ≤ s + w * y ∧ s + w * y ≤ 4000000000000000000) ∧ -((W + w) * D) ≤ s + w * y ∧ s + w * y ≤ (W + w) * D := by
  have m1 := mul_bnd (a := w) (b := y) (A := w) (B := D) ⟨by omega, by omega⟩ hy
  have h1 : w * D ≤ 500000 * D := Int.mul_le_mul_of_nonneg_right hw.2 hD.1
  have h2 : W * D ≤ 10000000 * D := Int.mul_le_mul_of_nonneg_right hW.2 hD.1
  rw [Int.add_mul]
  omega
section WM
variable {v : Nat → Nat → Int32}
abbrev tT (v : Nat → Nat → Int32) (k p : Nat) : Prop := brT (fs v) (sn v) (nA v) k p
abbrev oO (v : Nat → Nat → Int32) (k p : Nat) : Nat := brO (fs v) (sn v) k p
def wgt (v : Nat → Nat → Int32) (k : Nat) : Int64 := (nI (1000000 / ln v k)).toInt64
def wsm (v : Nat → Nat → Int32) (A : Nat → Int64) (p : Nat) : Nat → Int64 × Int64
  | 0 => (0, 0)
  | k + 1 => if tT v k p then ((wsm v A p k).1 + wgt v k * (A (oO v k p) + (rfr v (oO v k p) k).toInt64), (wsm v A p k).2 + wgt v k) else wsm v A p k
theorem wgt_b (C : CI v) {k : Nat} (hk : k < nN v) : 1 ≤ (wgt v k).toInt ∧ (wgt v k).toInt ≤ 500000 := by
  have h := (C.line hk).lnb
  have h1 : 625 ≤ 1000000 / ln v k := (Nat.le_div_iff_mul_le (by omega)).mpr (by omega)
  have h2 : 1000000 / ln v k ≤ 500000 := by
    exact Nat.le_trans (Nat.div_le_div_left h.1 (by decide)) (by decide)
  unfold wgt
  rw [nI_l (by omega), pk_lT (by omega)]
  omega
/-- the sums stay in bounds where all that is asked for does -/
theorem wsm_b (C : CI v) {A : Nat → Int64} {p : Nat} {B : Int} (hB9 : 0 ≤ B ∧ B ≤ 200000000000) (hA : ∀ k, k < nN v → tT v k p → -B ≤ (A (oO v k p)).toInt ∧ (A (oO v k p)).toInt ≤ B) : ∀ k, k ≤ nN v → 0 ≤ (wsm v A p k).2.toInt ∧ (wsm v A p k).2.toInt ≤ 500000 * (k : Int) ∧ -((wsm v A p k).2.toInt * (B + 32800000)) ≤ (wsm v A p k).1.toInt ∧ (wsm v A p k).1.toInt ≤ (wsm v A p k).2.toInt * (B + 32800000) ∧ ((∃ j, j < k ∧ tT v j p) → 1 ≤ (wsm v A p k).2.toInt)
  | 0, _ => by
    have z : (0 : Int64).toInt = 0 := by decide
    show 0 ≤ (0 : Int64).toInt ∧ (0 : Int64).toInt ≤ _ ∧ -((0 : Int64).toInt * _) ≤ (0 : Int64).toInt ∧ (0 : Int64).toInt ≤ (0 : Int64).toInt * _ ∧ _
    rw [z, Int.zero_mul]
    exact ⟨by omega, by omega, by omega, by omega, fun ⟨j, hj, _⟩ => absurd hj (Nat.not_lt_zero _)⟩
  | k + 1, hk => by
    obtain ⟨a1, a2, a3, a4, a5⟩ := wsm_b C hB9 hA k (by omega)
    have hb := C.b
    by_cases c : tT v k p
    · rw [show wsm v A p (k + 1) = _ from if_pos c]
      show 0 ≤ ((wsm v A p k).2 + wgt v k).toInt ∧ ((wsm v A p k).2 + wgt v k).toInt ≤ _ ∧ -(((wsm v A p k).2 + wgt v k).toInt * _) ≤ ((wsm v A p k).1 + wgt v k * (A (oO v k p) + (rfr v (oO v k p) k).toInt64)).toInt ∧ ((wsm v A p k).1 + wgt v k * (A (oO v k p) + (rfr v (oO v k p) k).toInt64)).toInt ≤ ((wsm v A p k).2 + wgt v k).toInt * _ ∧ _
      have w1 := wgt_b C (k := k) (by omega)
      have r1 := rfr_b C (k := k) (by omega) (oO v k p)
      have o1 := hA k (by omega) c
      have e1 : (A (oO v k p) + (rfr v (oO v k p) k).toInt64).toInt = (A (oO v k p)).toInt + (rfr v (oO v k p) k).toInt := by
        rw [i64_add (by rw [Int32.toInt_toInt64]; omega), Int32.toInt_toInt64]
      have e2 : ((wsm v A p k).2 + wgt v k).toInt = (wsm v A p k).2.toInt + (wgt v k).toInt := i64_add (by omega)
      obtain ⟨s1, s2, s3, s4⟩ := ws_st (W := (wsm v A p k).2.toInt) (w := (wgt v k).toInt) (y := (A (oO v k p) + (rfr v (oO v k p) k).toInt64).toInt) (D := B + 32800000) (s := (wsm v A p k).1.toInt) ⟨a1, by omega⟩ w1 (by rw [e1]; omega) (by omega) ⟨a3, a4⟩
      have e3 : (wgt v k * (A (oO v k p) + (rfr v (oO v k p) k).toInt64)).toInt = (wgt v k).toInt * (A (oO v k p) + (rfr v (oO v k p) k).toInt64).toInt := i64_mul (by omega)
      have e4 : ((wsm v A p k).1 + wgt v k * (A (oO v k p) + (rfr v (oO v k p) k).toInt64)).toInt = (wsm v A p k).1.toInt + (wgt v k).toInt * (A (oO v k p) + (rfr v (oO v k p) k).toInt64).toInt := by rw [i64_add (by rw [e3]; omega), e3]
      rw [e2, e4]
      exact ⟨by omega, by omega, s3, s4, fun _ => by omega⟩
    · rw [show wsm v A p (k + 1) = _ from if_neg c]
      refine ⟨a1, by omega, a3, a4, fun ⟨j, hj, ht⟩ => a5 ⟨j, ?_, ht⟩⟩
      have : j ≠ k := fun w => c (w ▸ ht)
      omega
def mnv (v : Nat → Nat → Int32) (A : Nat → Int64) (p : Nat) : Int64 := ((f_J9_floorDiv_f86c9 (((2 : Int64) * (wsm v A p (nN v)).1) + (wsm v A p (nN v)).2) ((2 : Int64) * (wsm v A p (nN v)).2) (fun _ _ => 0, fun _ _ => 0)).getD 0)
theorem mnv_b (C : CI v) {A : Nat → Int64} {p : Nat} {B : Int} (hB9 : 0 ≤ B ∧ B ≤ 200000000000) (hA : ∀ k, k < nN v → tT v k p → -B ≤ (A (oO v k p)).toInt ∧ (A (oO v k p)).toInt ≤ B) (ht : ∃ j, j < nN v ∧ tT v j p) : 0 < (wsm v A p (nN v)).2.toInt ∧ (∀ μ, f_J9_floorDiv_f86c9 (((2 : Int64) * (wsm v A p (nN v)).1) + (wsm v A p (nN v)).2) ((2 : Int64) * (wsm v A p (nN v)).2) μ = some (mnv v A p)) ∧ (∀ μ, f_J9_floorDiv_f86c9 (((2 : Int64) * (wsm v A p (nN v)).1) + (wsm v A p (nN v)).2) ((2 : Int64) * (wsm v A p (nN v)).2) μ = some (mnv v A p)) ∧ -(B + 32800000) ≤ (mnv v A p).toInt ∧ (mnv v A p).toInt ≤ B + 32800000 := by
  have hb := C.b
  obtain ⟨a1, a2, a3, a4, a5⟩ := wsm_b C hB9 hA (nN v) (Nat.le_refl _)
  have a5 := a5 ht
  have h2 : (2 : Int64).toInt = 2 := by decide
  have key : ∀ (W s z0 : Int64), 0 ≤ W.toInt → W.toInt ≤ 500000 * (nN v : Int) → -(W.toInt * (B + 32800000)) ≤ s.toInt → s.toInt ≤ W.toInt * (B + 32800000) → 1 ≤ W.toInt → z0 = (f_J9_floorDiv_f86c9 ((2 : Int64) * s + W) ((2 : Int64) * W) (fun _ _ => 0, fun _ _ => 0)).getD 0 → 0 < W.toInt ∧ (∀ μ, f_J9_floorDiv_f86c9 ((2 : Int64) * s + W) ((2 : Int64) * W) μ = some z0) ∧ (∀ μ, f_J9_floorDiv_f86c9 ((2 : Int64) * s + W) ((2 : Int64) * W) μ = some z0) ∧ -(B + 32800000) ≤ z0.toInt ∧ z0.toInt ≤ B + 32800000 := by
    intro W s z0 a1 a2 a3 a4 a5 hz
    have hWD : W.toInt * (B + 32800000) ≤ 10000000 * (B + 32800000) := Int.mul_le_mul_of_nonneg_right (by omega) (by omega)
    have e1 : ((2 : Int64) * W).toInt = 2 * W.toInt := by rw [i64_mul (by rw [h2]; omega), h2]
    have e2 : ((2 : Int64) * s).toInt = 2 * s.toInt := by rw [i64_mul (by rw [h2]; omega), h2]
    have e3 : ((2 : Int64) * s + W).toInt = 2 * s.toInt + W.toInt := by rw [i64_add (by rw [e2]; omega), e2]
    have hy : 0 < ((2 : Int64) * W).toInt := by rw [e1]; omega
    obtain ⟨z, g1, g2, g3, g4⟩ := fl_both (x := (2 : Int64) * s + W) (fun _ _ => 0, fun _ _ => 0) (fun _ _ => 0, fun _ _ => 0) hy
    have ez : z0 = z := by rw [hz, g2]; rfl
    subst ez
    rw [e1, e3] at g3 g4
    refine ⟨by omega, fun μ => g1, fun μ => g2, ?_, ?_⟩
    · refine Int.not_lt.mp (fun w => ?_)
      have m := Int.mul_le_mul_of_nonneg_left (show z0.toInt + 1 ≤ -(B + 32800000) by omega) (show 0 ≤ 2 * W.toInt by omega)
      rw [Int.mul_add, Int.mul_one, Int.mul_neg, Int.mul_assoc 2 W.toInt (B + 32800000)] at m
      omega
    · refine Int.not_lt.mp (fun w => ?_)
      have m := Int.mul_le_mul_of_nonneg_left (show B + 32800000 + 1 ≤ z0.toInt by omega) (show 0 ≤ 2 * W.toInt by omega)
      rw [Int.mul_add, Int.mul_one, Int.mul_assoc 2 W.toInt (B + 32800000)] at m
      omega
  exact key _ _ _ a1 a2 a3 a4 a5 rfl
end WM

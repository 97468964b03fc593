/-! absolute values, faults, names, settings, tests -/
theorem iabs_toInt {x : Int32} (h : -2147483648 < x.toInt) : (iabs x).toInt = (x.toInt.natAbs : Int) := by
  have h2 := Int32.toInt_lt x
  have z : (0 : Int32).toInt = 0 := by decide
  unfold iabs
  by_cases c : 0 ≤ x
  · rw [if_pos c]
    rw [Int32.le_iff_toInt_le, z] at c
    omega
  · rw [if_neg c]
    rw [Int32.le_iff_toInt_le, z] at c
    rw [Int32.toInt_sub, z, Int.bmod_eq_of_le (by omega) (by omega)]
    omega
theorem size_toInt {x : Int64} (μ : gM) (h : -9223372036854775808 < x.toInt) : ∃ y, f_X8_size x μ = some y ∧ y.toInt = (x.toInt.natAbs : Int) := by
  have h2 := Int64.toInt_lt x
  have z : (0 : Int64).toInt = 0 := by decide
  unfold f_X8_size
  by_cases c : (0 : Int64) ≤ x
  · refine ⟨x, if_pos c, ?_⟩
    rw [Int64.le_iff_toInt_le, z] at c
    omega
  · refine ⟨-x, if_neg c, ?_⟩
    rw [Int64.le_iff_toInt_le, z] at c
    rw [Int64.toInt_neg, Int.bmod_eq_of_le (by omega) (by omega)]
    omega
theorem size32 (x : Int32) (μ : gM) : ∃ y, f_X8_size x.toInt64 μ = some y ∧ y.toInt = (x.toInt.natAbs : Int) := by
  have h := size_toInt (x := x.toInt64) μ (by rw [Int32.toInt_toInt64]; have := Int32.le_toInt x; omega)
  rw [Int32.toInt_toInt64] at h
  exact h
def lsN (v : Nat → Nat → Int32) (k : Nat) : Nat → Nat
  | 0 => 0
  | n + 1 => lsN v k n + (if v 10 (32 * k + 4 * n + 2) ≤ v 1 1 then 0 else 1) + (if v 10 (32 * k + 4 * n + 3) ≤ v 1 1 then 0 else 1)
theorem lsN_le (v : Nat → Nat → Int32) (k n : Nat) : lsN v k n ≤ 2 * n := by
  induction n with
  | zero => exact Nat.le_refl _
  | succ n ih =>
    unfold lsN
    split <;> split <;> omega
def tv (v : Nat → Nat → Int32) (t i : Nat) : Int32 := v 12 (8 * t + i)
def apt (v : Nat → Nat → Int32) (t : Nat) : Int32 := (tv v t 0 - tv v t 1) - (tv v t 4 - tv v t 5)
def dvr (v : Nat → Nat → Int32) (t : Nat) : Int32 := (tv v t 2 - tv v t 3) - (tv v t 6 - tv v t 7)
def res (v : Nat → Nat → Int32) (t : Nat) : Int32 := if dvr v t = 0 then -2147483648 else if (100 : Int32) * apt v t / dvr v t < -200 then -2147483648 else if (100 : Int32) * apt v t / dvr v t ≤ 200 then (100 : Int32) * apt v t / dvr v t else -2147483648
section G5
variable {v : Nat → Nat → Int32} {μ ν : gM}
theorem c_ls (C : CO v μ) {k : Nat} (hk : k < nN v) : f_X3_longSights (nI k) μ = some (nI (lsN v k (ct v k))) := by
  have hb := C.1.b
  have hc := (C.1.line hk).cnt
  unfold f_X3_longSights
  have h : gloop (fun t => b_X3_longSights_4 (nI k) t.1 t.2 μ) gFuel ((0 : Int32), (0 : Int32)) = some (nI (lsN v k (ct v k))) := by
    refine gloop_run (fun i => (nI (lsN v k i), nI i)) (ct v k) (fun i hi => ?_) ?_ gFuel (by unfold gFuel; omega)
    · show b_X3_longSights_4 (nI k) (nI (lsN v k i)) (nI i) μ = _
      unfold b_X3_longSights_4 j_X3_longSights_43
      rw [gck (by omega) (by decide), nI_clamp (by omega), c_ct C hk, if_neg (nI_ge hi (by omega)), c_place (by omega) (by omega), Option.bind_some]
      simp (disch := omega) only [n1, n2, n3, nI_add, gck, nI_clamp]
      rw [show gi μ 44 (32 * k + 4 * i + 2) = v 10 (32 * k + 4 * i + 2) from C.at 10 _ (by decide), show gi μ 44 (32 * k + 4 * i + 3) = v 10 (32 * k + 4 * i + 3) from C.at 10 _ (by decide), show gi μ 35 1 = v 1 1 from C.at 1 _ (by decide)]
      show _ = some (Sum.inl (nI (lsN v k i + (if v 10 (32 * k + 4 * i + 2) ≤ v 1 1 then 0 else 1) + (if v 10 (32 * k + 4 * i + 3) ≤ v 1 1 then 0 else 1)), nI (i + 1)))
      by_cases c1 : v 10 (32 * k + 4 * i + 2) ≤ v 1 1 <;> by_cases c2 : v 10 (32 * k + 4 * i + 3) ≤ v 1 1 <;> simp only [c1, c2, if_true, if_false, Nat.add_zero]
    · show b_X3_longSights_4 (nI k) _ (nI (ct v k)) μ = _
      unfold b_X3_longSights_4
      rw [gck (by omega) (by decide), nI_clamp (by omega), c_ct C hk, if_pos (nI_le (Nat.le_refl _) (by omega))]
  rw [h]; rfl
theorem m_ls (M : MO v μ) {k : Nat} (hk : k < nN v) (x : Nat) : j_X8_faultsOf_41 (nI k) (nI x) μ = some (nI (x + lsN v k (ct v k)), μ) := by
  have hb := M.1.b
  have hc := (M.1.line hk).cnt
  unfold j_X8_faultsOf_41
  have h : gloop (fun t => b_X8_faultsOf_44 (nI k) t.1 t.2 μ) gFuel (nI x, (0 : Int32)) = some (nI (x + lsN v k (ct v k))) := by
    refine gloop_run (fun i => (nI (x + lsN v k i), nI i)) (ct v k) (fun i hi => ?_) ?_ gFuel (by unfold gFuel; omega)
    · show b_X8_faultsOf_44 (nI k) (nI (x + lsN v k i)) (nI i) μ = _
      unfold b_X8_faultsOf_44 j_X8_faultsOf_75
      rw [m_setups M hk, Option.bind_some, if_neg (nI_ge hi (by omega)), n2, n3, m_of M hk hi (by decide), m_of M hk hi (by decide), Option.bind_some, Option.bind_some, Option.bind_some]
      simp (disch := omega) only [n1, gck, nI_clamp]
      rw [show gi μ 61 1 = v 1 1 from M.2.1.1 1 (by decide)]
      show _ = some (Sum.inl (nI (x + (lsN v k i + (if v 10 (32 * k + 4 * i + 2) ≤ v 1 1 then 0 else 1) + (if v 10 (32 * k + 4 * i + 3) ≤ v 1 1 then 0 else 1))), nI (i + 1)))
      by_cases c1 : v 10 (32 * k + 4 * i + 2) ≤ v 1 1 <;> by_cases c2 : v 10 (32 * k + 4 * i + 3) ≤ v 1 1 <;> simp only [c1, c2, if_true, if_false, Nat.add_zero, Int32.add_zero, nI_add] <;> rfl
    · show b_X8_faultsOf_44 (nI k) _ (nI (ct v k)) μ = _
      unfold b_X8_faultsOf_44
      rw [m_setups M hk, Option.bind_some, if_pos (nI_le (Nat.le_refl _) (by omega))]
  rw [h]; rfl
theorem sm_b {k : Nat} (H : LI v k) {w : Nat} (hw : w < 4) (h2 : 2 ≤ w) : sm v k w (ct v k) ≤ 800 := by
  have := (sm_le H hw h2 _ (Nat.le_refl _)).2
  have := H.cnt
  omega
theorem sim_20 (s1 : Int32) (R : Rel μ) : simOK μ (f_case_20 s1 μ) := by
  have hb := R.1.b
  refine pureI (fC := f_X7_faultsOf s1 μ) (fM := f_X8_faultsOf s1) R ?_
  rcases ix3 s1 (n := nN (nv 34 μ)) (by omega) with h | ⟨a, ha, rfl⟩
  · refine Or.inl ⟨?_, ?_⟩
    · unfold f_X7_faultsOf; rw [R.co.N, needB (by omega) h]; rfl
    · unfold f_X8_faultsOf; rw [m_lineB R.mo h]; rfl
  · have C := R.co
    have hl := C.1.line ha
    have b2 := sm_b hl (w := 2) (by decide) (by decide)
    have b3 := sm_b hl (w := 3) (by decide) (by decide)
    obtain ⟨q, eq⟩ : ∃ q, q = nI (sm (nv 34 μ) a 2 (ct (nv 34 μ) a)) - nI (sm (nv 34 μ) a 3 (ct (nv 34 μ) a)) := ⟨_, rfl⟩
    have hq : q.toInt = (sm (nv 34 μ) a 2 (ct (nv 34 μ) a) : Int) - sm (nv 34 μ) a 3 (ct (nv 34 μ) a) := by rw [eq]; exact pk_sub_toInt (by omega) (by omega)
    have hs := R.1.2.2.1.2.2
    refine Or.inr ⟨if (q.toInt.natAbs : Int) ≤ (nv 34 μ 1 2).toInt then nI (lsN (nv 34 μ) a (ct (nv 34 μ) a)) else nI (1000 + lsN (nv 34 μ) a (ct (nv 34 μ) a)), ?_, fun ν M => ?_⟩
    · unfold f_X7_faultsOf; rw [C.N, needG (by omega) ha, Option.bind_some]; show Option.bind (f_X3_longSights _ _) _ = _
      rw [c_ls C ha, Option.bind_some, c_lineImbalance C ha, Option.bind_some, ← eq, n2, gck (by decide) (by decide), nI_clamp (by decide), show gi μ 35 2 = nv 34 μ 1 2 from C.at 1 2 (by decide)]
      have e : (iabs q ≤ nv 34 μ 1 2) ↔ (q.toInt.natAbs : Int) ≤ (nv 34 μ 1 2).toInt := by rw [Int32.le_iff_toInt_le, iabs_toInt (by omega)]
      by_cases c : (q.toInt.natAbs : Int) ≤ (nv 34 μ 1 2).toInt
      · rw [if_pos (e.mpr c), if_pos c]
      · rw [if_neg (fun w => c (e.mp w)), if_neg c, show (1000 : Int32) = nI 1000 from rfl, nI_add, Nat.add_comm]
    · have M1 := M.si6 0
      obtain ⟨y, hy1, hy2⟩ := size32 q (si ν 60 6 0)
      unfold f_X8_faultsOf; rw [m_lineG M ha, Option.bind_some, failG, Option.bind_some]; simp only [bF, if_true]
      rw [m_balance M1 ha, Option.bind_some, ← eq, hy1, Option.bind_some, n2, gck (by decide) (by decide), nI_clamp (by decide), show gi (si ν 60 6 0) 61 2 = nv 34 μ 1 2 from M1.2.1.1 2 (by decide)]
      have e : (y ≤ (nv 34 μ 1 2).toInt64) ↔ (q.toInt.natAbs : Int) ≤ (nv 34 μ 1 2).toInt := by rw [Int64.le_iff_toInt_le, hy2, Int32.toInt_toInt64]
      by_cases c : (q.toInt.natAbs : Int) ≤ (nv 34 μ 1 2).toInt
      · rw [if_pos (e.mpr c), if_pos c]
        show j_X8_faultsOf_41 (nI a) (nI 0) (si ν 60 6 0) = _
        rw [m_ls M1 ha, Nat.zero_add]
      · rw [if_neg (fun w => c (e.mp w)), if_neg c, show (1000 : Int32) = nI 1000 from rfl, m_ls M1 ha]
theorem c_tv (C : CO v μ) (t i : Nat) : gi μ 46 (8 * t + i) = tv v t i := C.at 12 _ (by decide)
theorem ix2 (t i : Nat) : t * 2 * 4 + i = 8 * t + i := by omega
theorem ix20 (t : Nat) : t * 2 * 4 = 8 * t + 0 := by omega
theorem c_gap (C : CO v μ) {t : Nat} (ht : t < 6) : f_X3_testGap (nI t) μ = some (apt v t) := by
  unfold f_X3_testGap
  simp (disch := omega) only [Int32.add_zero, n1, n2, n4, pk_mul, nI_add, gck, nI_clamp]
  simp only [Nat.add_assoc, ix2]
  rw [ix20]
  simp only [c_tv C]
  rfl
theorem c_res (C : CO v μ) {t : Nat} (ht : t < 6) : f_X3_testResult (nI t) μ = some (res v t) := by
  unfold f_X3_testResult
  rw [c_gap C ht]
  simp (disch := omega) only [n2, n3, n4, pk_mul, nI_add, gck, nI_clamp]
  simp only [Nat.add_assoc, ix2, c_tv C]
  show (if dvr v t = 0 then _ else Option.bind (some (apt v t)) _) = some (res v t)
  unfold res
  by_cases c : dvr v t = 0
  · rw [if_pos c, if_pos c]
  · rw [if_neg c, if_neg c, Option.bind_some]
    show gchk (¬ dvr v t = 0) _ = _
    rw [gckb c]
    show (if (100 : Int32) * apt v t / dvr v t < -200 then _ else _) = _
    split
    · rfl
    · show (if (100 : Int32) * apt v t / dvr v t ≤ nI 200 then _ else _) = some (if (100 : Int32) * apt v t / dvr v t ≤ nI 200 then _ else _)
      split <;> rfl
theorem m_testOf (M : MO v μ) {t i : Nat} (ht : t < nT v) (hi : i < 8) : f_X8_testOf (nI t) (nI i) μ = some (tv v t i) := by
  have hb := M.1.b
  unfold f_X8_testOf
  simp (disch := omega) only [n64, n9, n1, pk_mul, nI_add, gck, nI_clamp]
  exact congrArg some ((M.2.2.2.2.1 t ht).2 i hi)
theorem m_apart (M : MO v μ) {t : Nat} (ht : t < nT v) : f_X8_apart (nI t) μ = some (apt v t) := by
  unfold f_X8_apart
  rw [show (0 : Int32) = nI 0 from rfl, n1, n4, n5, m_testOf M ht (by decide), m_testOf M ht (by decide), m_testOf M ht (by decide), m_testOf M ht (by decide)]
  rfl
theorem m_result (M : MO v μ) {t : Nat} (ht : t < nT v) : f_X8_result (nI t) μ = some (res v t) := by
  unfold f_X8_result
  rw [n2, n3, n6, n7, m_testOf M ht (by decide), m_testOf M ht (by decide), m_testOf M ht (by decide), m_testOf M ht (by decide), m_apart M ht]
  show (if dvr v t = 0 then _ else Option.bind (some (apt v t)) _) = some (res v t)
  unfold res
  by_cases c : dvr v t = 0
  · rw [if_pos c, if_pos c]
  · rw [if_neg c, if_neg c, Option.bind_some]
    show gchk (¬ dvr v t = 0) _ = _
    rw [gckb c]
    show Option.bind (f_X8_inRange ((100 : Int32) * apt v t / dvr v t) (-200) 200 μ) _ = _
    unfold f_X8_inRange
    by_cases c1 : (100 : Int32) * apt v t / dvr v t < -200
    · rw [if_pos c1, if_pos c1]; rfl
    · rw [if_neg c1, if_neg c1]
      by_cases c2 : (100 : Int32) * apt v t / dvr v t ≤ 200
      · rw [if_neg (Int32.not_lt.mpr c2), if_pos c2]; rfl
      · rw [if_pos (Int32.not_le.mp c2), if_neg c2]; rfl
theorem sim_12 (s1 s2 : Int32) (R : Rel μ) : simOK μ (f_case_12 s1 s2 μ) := by
  have hb := R.1.b
  refine pureI (fC := f_X7_testNumber s1 s2 μ) (fM := f_X8_testNumber s1 s2) R ?_
  have e3 : gi μ 34 3 = nI (nT (nv 34 μ)) := R.1.1.2.2.2.1
  rcases ix3 s1 (n := nT (nv 34 μ)) (by omega) with h | ⟨a, ha, rfl⟩
  · refine Or.inl ⟨?_, ?_⟩
    · unfold f_X7_testNumber; rw [e3, needB (by omega) h]; rfl
    · unfold f_X8_testNumber; rw [m_testB R.mo h]; rfl
  · have C := R.co
    refine Or.inr ⟨if s2 = 0 then nv 34 μ 11 a else if s2 = 1 then res (nv 34 μ) a else if s2 = 2 then apt (nv 34 μ) a else -2147483648, ?_, fun ν M => ?_⟩
    · unfold f_X7_testNumber; rw [e3, needG (by omega) ha, Option.bind_some]
      show (if s2 = 0 then _ else _) = _
      by_cases c : s2 = 0
      · rw [if_pos c, if_pos c, gck (by omega) (by decide), nI_clamp (by omega)]; rfl
      rw [if_neg c, if_neg c]
      by_cases c : s2 = 1
      · rw [if_pos c, if_pos c, c_res C (by omega)]; rfl
      rw [if_neg c, if_neg c]
      by_cases c : s2 = 2
      · rw [if_pos c, if_pos c, c_gap C (by omega)]; rfl
      rw [if_neg c, if_neg c]
    · have M1 := M.si6 0
      unfold f_X8_testNumber; rw [m_testG M ha, Option.bind_some, failG, Option.bind_some]; simp only [bF, if_true]
      by_cases c : s2 = 0
      · rw [if_pos c, if_pos c]
        simp (disch := omega) only [n64, n9, pk_mul, nI_add, gck, nI_clamp]
        exact congrArg (fun q => some (q, si ν 60 6 0)) (M1.2.2.2.2.1 a ha).1
      rw [if_neg c, if_neg c]
      by_cases c : s2 = 1
      · rw [if_pos c, if_pos c, m_result M1 ha]; rfl
      rw [if_neg c, if_neg c]
      by_cases c : s2 = 2
      · rw [if_pos c, if_pos c, m_apart M1 ha]; rfl
      rw [if_neg c, if_neg c]
theorem sim_8 (s1 : Int32) (R : Rel μ) : simOK μ (f_case_8 s1 μ) := by
  have hb := R.1.b
  have M1 := R.mo.si6 0
  refine caseE (fC := f_X7_levelNamed s1 μ) (fM := f_X8_levelNamed s1 μ) (w := oI (fstN (fun k => decide (nv 34 μ 2 k = s1)) (nL (nv 34 μ)))) (μ2 := si μ 60 6 0) ?_ ?_ (si60 0) R
  · unfold f_X7_levelNamed f_X3_findLevel
    rw [show (0 : Int32) = nI 0 from rfl, gloop_find (P := fun k => decide (nv 34 μ 2 k = s1)) (nL (nv 34 μ)) (by omega) (fun k hk e => ?_) (fun k hk e => ?_) ?_, Option.bind_some]
    · cases fstN (fun k => decide (nv 34 μ 2 k = s1)) (nL (nv 34 μ)) <;> rfl
    · show b_X3_findLevel_2 s1 (nI (nL (nv 34 μ))) μ = _
      unfold b_X3_findLevel_2
      rw [show gi μ 34 0 = nI (nL (nv 34 μ)) from R.1.1.1, if_pos (nI_le (Nat.le_refl _) (by omega))]
    · show b_X3_findLevel_2 s1 (nI k) μ = _
      unfold b_X3_findLevel_2
      rw [show gi μ 34 0 = nI (nL (nv 34 μ)) from R.1.1.1, if_neg (nI_ge hk (by omega)), gck (by omega) (by decide), nI_clamp (by omega), show gi μ 36 k = nv 34 μ 2 k from rfl, if_neg (of_decide_eq_false e), nI_1]
    · show b_X3_findLevel_2 s1 (nI k) μ = _
      unfold b_X3_findLevel_2
      rw [show gi μ 34 0 = nI (nL (nv 34 μ)) from R.1.1.1, if_neg (nI_ge hk (by omega)), gck (by omega) (by decide), nI_clamp (by omega), show gi μ 36 k = nv 34 μ 2 k from rfl, if_pos (of_decide_eq_true e)]
  · unfold f_X8_levelNamed f_X8_find_66
    rw [if_pos rfl]
    unfold j_X8_find_66_11
    have em : ∀ k, k < nL (nv 34 μ) → gi (si μ 60 6 0) 66 (118 + k) = nv 34 μ 2 k := fun k hk => M1.2.2.2.2.2.1 k hk
    have hz : ∀ x : Int32, x = 0 + 0 → x = nI 0 := fun x h => h.trans (by decide)
    have h := gloop_find (P := fun k => decide (nv 34 μ 2 k = s1)) (body := fun t => b_X8_find_66_15 (0 : Int32) s1 (118 : Int32) t (si μ 60 6 0)) (nL (nv 34 μ)) (by omega) (fun k hk e => ?_) (fun k hk e => ?_) ?_
    · rw [show gloop (fun t => b_X8_find_66_15 (0 : Int32) s1 (118 : Int32) t (si μ 60 6 0)) gFuel (0 : Int32) = _ from h, Option.bind_some]
      cases fstN (fun k => decide (nv 34 μ 2 k = s1)) (nL (nv 34 μ)) <;> rfl
    · show b_X8_find_66_15 (0 : Int32) s1 (118 : Int32) (nI k) (si μ 60 6 0) = _
      unfold b_X8_find_66_15
      rw [show (0 : Int32) + 0 = nI 0 from by decide, gck (by decide) (by decide), nI_clamp (by decide), M1.cL, if_neg (nI_ge hk (by omega)), n118, nI_add, gck (by omega) (by decide), nI_clamp (by omega), em k hk, if_neg (of_decide_eq_false e), nI_1]
    · show b_X8_find_66_15 (0 : Int32) s1 (118 : Int32) (nI k) (si μ 60 6 0) = _
      unfold b_X8_find_66_15
      rw [show (0 : Int32) + 0 = nI 0 from by decide, gck (by decide) (by decide), nI_clamp (by decide), M1.cL, if_neg (nI_ge hk (by omega)), n118, nI_add, gck (by omega) (by decide), nI_clamp (by omega), em k hk, if_pos (of_decide_eq_true e)]
    · show b_X8_find_66_15 (0 : Int32) s1 (118 : Int32) (nI (nL (nv 34 μ))) (si μ 60 6 0) = _
      unfold b_X8_find_66_15
      rw [show (0 : Int32) + 0 = nI 0 from by decide, gck (by decide) (by decide), nI_clamp (by decide), M1.cL, if_pos (nI_le (Nat.le_refl _) (by omega))]
theorem sim_9 (s1 : Int32) (R : Rel μ) : simOK μ (f_case_9 s1 μ) := by
  have hb := R.1.b
  have M1 := R.mo.si6 0
  refine caseE (fC := f_X7_pointNamed s1 μ) (fM := f_X8_pointNamed s1 μ) (w := oI (fstN (fun k => decide (nv 34 μ 4 k = s1)) (nP (nv 34 μ)))) (μ2 := si μ 60 6 0) ?_ ?_ (si60 0) R
  · unfold f_X7_pointNamed f_X3_findPoint
    rw [show (0 : Int32) = nI 0 from rfl, gloop_find (P := fun k => decide (nv 34 μ 4 k = s1)) (nP (nv 34 μ)) (by omega) (fun k hk e => ?_) (fun k hk e => ?_) ?_, Option.bind_some]
    · cases fstN (fun k => decide (nv 34 μ 4 k = s1)) (nP (nv 34 μ)) <;> rfl
    · show b_X3_findPoint_2 s1 (nI (nP (nv 34 μ))) μ = _
      unfold b_X3_findPoint_2
      rw [R.co.P, if_pos (nI_le (Nat.le_refl _) (by omega))]
    · show b_X3_findPoint_2 s1 (nI k) μ = _
      unfold b_X3_findPoint_2
      rw [R.co.P, if_neg (nI_ge hk (by omega)), gck (by omega) (by decide), nI_clamp (by omega), show gi μ 38 k = nv 34 μ 4 k from rfl, if_neg (of_decide_eq_false e), nI_1]
    · show b_X3_findPoint_2 s1 (nI k) μ = _
      unfold b_X3_findPoint_2
      rw [R.co.P, if_neg (nI_ge hk (by omega)), gck (by omega) (by decide), nI_clamp (by omega), show gi μ 38 k = nv 34 μ 4 k from rfl, if_pos (of_decide_eq_true e)]
  · unfold f_X8_pointNamed f_X8_find_66
    rw [if_neg (by decide)]
    unfold j_X8_find_66_11
    have em : ∀ k, k < nP (nv 34 μ) → gi (si μ 60 6 0) 66 (121 + k) = nv 34 μ 4 k := fun k hk => M1.2.2.2.2.2.2 k hk
    have h := gloop_find (P := fun k => decide (nv 34 μ 4 k = s1)) (body := fun t => b_X8_find_66_15 (1 : Int32) s1 (121 : Int32) t (si μ 60 6 0)) (nP (nv 34 μ)) (by omega) (fun k hk e => ?_) (fun k hk e => ?_) ?_
    · rw [show gloop (fun t => b_X8_find_66_15 (1 : Int32) s1 (121 : Int32) t (si μ 60 6 0)) gFuel (0 : Int32) = _ from h, Option.bind_some]
      cases fstN (fun k => decide (nv 34 μ 4 k = s1)) (nP (nv 34 μ)) <;> rfl
    · show b_X8_find_66_15 (1 : Int32) s1 (121 : Int32) (nI k) (si μ 60 6 0) = _
      unfold b_X8_find_66_15
      rw [show (0 : Int32) + 1 = nI 1 from by decide, gck (by decide) (by decide), nI_clamp (by decide), M1.cP, if_neg (nI_ge hk (by omega)), n121, nI_add, gck (by omega) (by decide), nI_clamp (by omega), em k hk, if_neg (of_decide_eq_false e), nI_1]
    · show b_X8_find_66_15 (1 : Int32) s1 (121 : Int32) (nI k) (si μ 60 6 0) = _
      unfold b_X8_find_66_15
      rw [show (0 : Int32) + 1 = nI 1 from by decide, gck (by decide) (by decide), nI_clamp (by decide), M1.cP, if_neg (nI_ge hk (by omega)), n121, nI_add, gck (by omega) (by decide), nI_clamp (by omega), em k hk, if_pos (of_decide_eq_true e)]
    · show b_X8_find_66_15 (1 : Int32) s1 (121 : Int32) (nI (nP (nv 34 μ))) (si μ 60 6 0) = _
      unfold b_X8_find_66_15
      rw [show (0 : Int32) + 1 = nI 1 from by decide, gck (by decide) (by decide), nI_clamp (by decide), M1.cP, if_pos (nI_le (Nat.le_refl _) (by omega))]
theorem sim_10 (s1 : Int32) (R : Rel μ) : simOK μ (f_case_10 s1 μ) := by
  have M1 := R.mo.si6 0
  rcases ix3 s1 (n := 3) (by decide) with h | ⟨a, ha, rfl⟩
  · refine caseE (fC := f_X7_getSetting s1 μ) (fM := f_X8_getSetting s1 μ) (w := -2) (μ2 := si μ 60 6 0) ?_ ?_ (si60 0) R
    · unfold f_X7_getSetting; rw [n3, ixB (by decide) h]; rfl
    · unfold f_X8_getSetting; rw [show (2 : Int32) = nI 3 - 1 from by decide, rgB (by decide) h]; rfl
  · refine caseE (fC := f_X7_getSetting (nI a) μ) (fM := f_X8_getSetting (nI a) μ) (w := nv 34 μ 1 a) (μ2 := si μ 60 6 0) ?_ ?_ (si60 0) R
    · unfold f_X7_getSetting; rw [n3, ixG (by decide) ha, Option.bind_some]; simp only [bT, if_false]; rw [gck (by omega) (by decide), nI_clamp (by omega)]; rfl
    · unfold f_X8_getSetting; rw [show (2 : Int32) = nI 3 - 1 from by decide, rgG (by decide) ha, Option.bind_some]; simp only [bT, if_false]; rw [gck (by omega) (by decide), nI_clamp (by omega)]
      exact congrArg (fun q => some (q, si μ 60 6 0)) (M1.2.1.1 a ha)
end G5

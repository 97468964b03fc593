/-! carried heights: the operations that ask for them -/
theorem c_has {v : Nat → Nat → Int32} {μ : gM} {k : Nat} (C : CO v μ) (hk : k < nN v) (x : Int32) : f_X3_hasSetup (nI k) x μ = f_X7_isIndex x (nI (ct v k)) μ := by
  have hb := C.1.b
  unfold f_X3_hasSetup
  rw [gck (by omega) (by decide), nI_clamp (by omega), c_ct C hk]
  cases f_X7_isIndex x (nI (ct v k)) μ <;> rfl
def thS (v : Nat → Nat → Int32) (k : Nat) (x : Int64) : Nat → Int64
  | 0 => x
  | s + 1 => thS v k x s + (stp v k s).toInt64
def rcS (v : Nat → Nat → Int32) : Nat → Int32
  | 0 => 0
  | p + 1 => if pv v p = noH then rcS v p else rcS v p ||| ((1 : Int32) <<< (nI p &&& 31))
def rd1 (v : Nat → Nat → Int32) : Nat → Int32
  | 0 => 0
  | k + 1 => if (nA v).testBit k = true ∧ ¬ pv v (fs v k) = noH ∧ ¬ pv v (sn v k) = noH then rd1 v k + 1 else rd1 v k
def rd2 (v : Nat → Nat → Int32) : Nat → Int32
  | 0 => rd1 v (nN v)
  | p + 1 => if ¬ pv v p = noH ∧ v 5 p = -1 then rd2 v p + (-1) else rd2 v p
section G6
variable {μ : gM}
theorem sim_42 (s1 : Int32) (R : Rel μ) : simOK μ (f_case_42 s1 μ) := by
  have hb := R.1.b
  refine workJ (fC := f_X7_provisional s1 μ) (fM := f_X8_provisional s1) R ?_
  rcases ix3 s1 (n := nP (nv 34 μ)) (by omega) with h | ⟨a, ha, rfl⟩
  · refine Or.inl ⟨μ, ?_, Fr.rf μ, 0, si μ 60 6 1, ?_, si60 1, gi_sii⟩
    · unfold f_X7_provisional; rw [R.co.P, needB (by omega) h]; rfl
    · unfold f_X8_provisional; rw [m_pointB R.mo h]; rfl
  · obtain ⟨ν1, e1, F1, h1⟩ := c_carry R.co
    refine Or.inr ⟨pv (nv 34 μ) a, ν1, ?_, F1, fun ν M => ?_⟩
    · unfold f_X7_provisional; rw [R.co.P, needG (by omega) ha, Option.bind_some]
      show Option.bind (f_X0_carry μ) _ = _
      rw [e1, Option.bind_some, gck (by omega) (by decide), nI_clamp (by omega), h1 a ha]
    · obtain ⟨ν2, e2, F2, h2⟩ := m_lay (M.si6 0)
      refine ⟨ν2, ?_, (si60 0).tr F2.1, F2.2.trans gi_sii⟩
      unfold f_X8_provisional; rw [m_pointG M ha, Option.bind_some, failG, Option.bind_some]; simp only [bF, if_true]
      rw [e2, Option.bind_some, gck (by omega) (by decide), nI_clamp (by omega), h2 a ha]
theorem sim_43 (R : Rel μ) : simOK μ (f_case_43 μ) := by
  have hb := R.1.b
  refine workE (fC := f_X7_reached μ) (fM := f_X8_reached) R ?_
  obtain ⟨ν1, e1, F1, h1⟩ := c_carry R.co
  have C1 := R.co.fr F1
  refine ⟨rcS (nv 34 μ) (nP (nv 34 μ)), ν1, ?_, F1, fun ν M => ?_⟩
  · unfold f_X7_reached
    rw [e1, Option.bind_some]
    have h : gloop (fun t => b_X7_reached_15 t.1 t.2 ν1) gFuel ((0 : Int32), (0 : Int32)) = some (rcS (nv 34 μ) (nP (nv 34 μ))) := by
      refine gloop_run (fun i => (rcS (nv 34 μ) i, nI i)) (nP (nv 34 μ)) (fun i hi => ?_) ?_ gFuel (by unfold gFuel; omega)
      · show b_X7_reached_15 _ (nI i) ν1 = _
        unfold b_X7_reached_15
        rw [C1.P, if_neg (nI_ge hi (by omega)), gck (by omega) (by decide), nI_clamp (by omega), h1 i hi, nI_1]
        show _ = some (Sum.inl ((if pv (nv 34 μ) i = noH then _ else _), nI (i + 1)))
        by_cases c : pv (nv 34 μ) i = noH
        · rw [if_pos c, if_pos c]
        · rw [if_neg c, if_neg c]
      · show b_X7_reached_15 _ (nI (nP (nv 34 μ))) ν1 = _
        unfold b_X7_reached_15
        rw [C1.P, if_pos (nI_le (Nat.le_refl _) (by omega))]
    rw [h]; rfl
  · obtain ⟨ν2, e2, F2, h2⟩ := m_lay (M.si6 0)
    have M2 := (M.si6 0).fr F2.1
    refine ⟨ν2, ?_, (si60 0).tr F2.1⟩
    unfold f_X8_reached
    rw [e2, Option.bind_some]
    have h : gloop (fun t => b_X8_reached_13 t.1 t.2 ν2) gFuel ((0 : Int32), (0 : Int32)) = some (rcS (nv 34 μ) (nP (nv 34 μ))) := by
      refine gloop_run (fun i => (rcS (nv 34 μ) i, nI i)) (nP (nv 34 μ)) (fun i hi => ?_) ?_ gFuel (by unfold gFuel; omega)
      · show b_X8_reached_13 _ (nI i) ν2 = _
        unfold b_X8_reached_13
        rw [m_cP M2, Option.bind_some, if_neg (nI_ge hi (by omega)), gck (by omega) (by decide), nI_clamp (by omega), h2 i hi, nI_1]
        show _ = some (Sum.inl ((if pv (nv 34 μ) i = noH then _ else _), nI (i + 1)))
        by_cases c : pv (nv 34 μ) i = noH
        · rw [if_pos c, if_pos c, Int32.or_zero]
        · rw [if_neg c, if_neg c]
      · show b_X8_reached_13 _ (nI (nP (nv 34 μ))) ν2 = _
        unfold b_X8_reached_13
        rw [m_cP M2, Option.bind_some, if_pos (nI_le (Nat.le_refl _) (by omega))]
    rw [h]; rfl
theorem sim_50 (R : Rel μ) : simOK μ (f_case_50 μ) := by
  have hb := R.1.b
  refine workE (fC := f_X7_redundancy μ) (fM := f_X8_redundancy) R ?_
  obtain ⟨ν1, e1, F1, h1⟩ := c_carry R.co
  have C1 := R.co.fr F1
  refine ⟨rd2 (nv 34 μ) (nP (nv 34 μ)), ν1, ?_, F1, fun ν M => ?_⟩
  · unfold f_X7_redundancy
    rw [e1, Option.bind_some]
    have h : gloop (fun t => b_X7_redundancy_15 t.1 t.2 ν1) gFuel ((0 : Int32), (0 : Int32)) = some (rd1 (nv 34 μ) (nN (nv 34 μ))) := by
      refine gloop_run (fun i => (rd1 (nv 34 μ) i, nI i)) (nN (nv 34 μ)) (fun i hi => ?_) ?_ gFuel (by unfold gFuel; omega)
      · show b_X7_redundancy_15 _ (nI i) ν1 = _
        have hg := C1.1.g i hi
        unfold b_X7_redundancy_15
        rw [C1.N, if_neg (nI_ge hi (by omega)), c_isActive C1 hi, Option.bind_some, nI_1]
        show _ = some (Sum.inl ((if (nA (nv 34 μ)).testBit i = true ∧ ¬ pv (nv 34 μ) (fs (nv 34 μ) i) = noH ∧ ¬ pv (nv 34 μ) (sn (nv 34 μ) i) = noH then _ else _), nI (i + 1)))
        cases a : (nA (nv 34 μ)).testBit i with
        | false => simp only [bF, if_true, Bool.false_eq_true, false_and, if_false]
        | true =>
          simp only [bT, if_false, true_and]
          simp (disch := omega) only [gck, nI_clamp, c_fs C1 hi, c_sn C1 hi, h1 _ hg.1, h1 _ hg.2]
          by_cases c : pv (nv 34 μ) (fs (nv 34 μ) i) = noH
          · rw [if_pos c, if_neg (fun w => w.1 c)]
          · rw [if_neg c]
            by_cases d : pv (nv 34 μ) (sn (nv 34 μ) i) = noH
            · rw [if_pos d, if_neg (fun w => w.2 d)]
            · rw [if_neg d, if_pos ⟨c, d⟩]
      · show b_X7_redundancy_15 _ (nI (nN (nv 34 μ))) ν1 = _
        unfold b_X7_redundancy_15
        rw [C1.N, if_pos (nI_le (Nat.le_refl _) (by omega))]
    have h' : gloop (fun t => b_X7_redundancy_96 t.1 t.2 ν1) gFuel (rd1 (nv 34 μ) (nN (nv 34 μ)), (0 : Int32)) = some (rd2 (nv 34 μ) (nP (nv 34 μ))) := by
      refine gloop_run (fun i => (rd2 (nv 34 μ) i, nI i)) (nP (nv 34 μ)) (fun i hi => ?_) ?_ gFuel (by unfold gFuel; omega)
      · show b_X7_redundancy_96 _ (nI i) ν1 = _
        unfold b_X7_redundancy_96
        simp (disch := omega) only [C1.P, if_neg (nI_ge hi (show nP (nv 34 μ) < 2 ^ 31 by omega)), gck, nI_clamp, h1 i hi, nI_1]
        rw [show gi ν1 39 i = nv 34 μ 5 i from C1.at 5 i (by decide)]
        show _ = some (Sum.inl ((if ¬ pv (nv 34 μ) i = noH ∧ nv 34 μ 5 i = -1 then _ else _), nI (i + 1)))
        by_cases c : pv (nv 34 μ) i = noH
        · rw [if_pos c, if_neg (fun w => w.1 c)]
        · rw [if_neg c]
          by_cases d : nv 34 μ 5 i = -1
          · rw [if_pos d, if_pos ⟨c, d⟩]
          · rw [if_neg d, if_neg (fun w => d w.2)]
      · show b_X7_redundancy_96 _ (nI (nP (nv 34 μ))) ν1 = _
        unfold b_X7_redundancy_96
        rw [C1.P, if_pos (nI_le (Nat.le_refl _) (by omega))]
    rw [h, Option.bind_some, h']; rfl
  · obtain ⟨ν2, e2, F2, h2⟩ := m_lay (M.si6 0)
    have M2 := (M.si6 0).fr F2.1
    refine ⟨ν2, ?_, (si60 0).tr F2.1⟩
    unfold f_X8_redundancy
    rw [e2, Option.bind_some]
    have h : gloop (fun t => b_X8_redundancy_13 t.1 t.2 ν2) gFuel ((0 : Int32), (0 : Int32)) = some (rd1 (nv 34 μ) (nN (nv 34 μ))) := by
      refine gloop_run (fun i => (rd1 (nv 34 μ) i, nI i)) (nN (nv 34 μ)) (fun i hi => ?_) ?_ gFuel (by unfold gFuel; omega)
      · show b_X8_redundancy_13 _ (nI i) ν2 = _
        have hg := M2.1.g i hi
        unfold b_X8_redundancy_13
        rw [m_cN M2, Option.bind_some, if_neg (nI_ge hi (by omega)), m_isActive M2 hi, Option.bind_some, nI_1, m_first M2 hi, m_second M2 hi]
        show _ = some (Sum.inl ((if (nA (nv 34 μ)).testBit i = true ∧ ¬ pv (nv 34 μ) (fs (nv 34 μ) i) = noH ∧ ¬ pv (nv 34 μ) (sn (nv 34 μ) i) = noH then _ else _), nI (i + 1)))
        cases a : (nA (nv 34 μ)).testBit i with
        | false => simp only [bF, if_true, Bool.false_eq_true, false_and, if_false, Int32.add_zero]
        | true =>
          simp only [bT, if_false, true_and, Option.bind_some]
          simp (disch := omega) only [gck, nI_clamp, h2 _ hg.1, h2 _ hg.2, Int32.add_zero]
          by_cases c : pv (nv 34 μ) (fs (nv 34 μ) i) = noH
          · rw [if_pos c, if_neg (fun w => w.1 c)]
          · rw [if_neg c]
            by_cases d : pv (nv 34 μ) (sn (nv 34 μ) i) = noH
            · rw [if_pos d, if_neg (fun w => w.2 d)]
            · rw [if_neg d, if_pos ⟨c, d⟩]
      · show b_X8_redundancy_13 _ (nI (nN (nv 34 μ))) ν2 = _
        unfold b_X8_redundancy_13
        rw [m_cN M2, Option.bind_some, if_pos (nI_le (Nat.le_refl _) (by omega))]
    have h' : gloop (fun t => b_X8_redundancy_80 t.1 t.2 ν2) gFuel (rd1 (nv 34 μ) (nN (nv 34 μ)), (0 : Int32)) = some (rd2 (nv 34 μ) (nP (nv 34 μ))) := by
      refine gloop_run (fun i => (rd2 (nv 34 μ) i, nI i)) (nP (nv 34 μ)) (fun i hi => ?_) ?_ gFuel (by unfold gFuel; omega)
      · show b_X8_redundancy_80 _ (nI i) ν2 = _
        unfold b_X8_redundancy_80
        rw [m_cP M2, Option.bind_some]
        simp (disch := omega) only [n6, nI_add, if_neg (nI_ge hi (show nP (nv 34 μ) < 2 ^ 31 by omega)), gck, nI_clamp, h2 i hi, nI_1]
        rw [show gi ν2 61 (6 + i) = nv 34 μ 5 i from M2.2.1.2.2.1 i hi]
        have hh := held_ge M2.1 hi
        show _ = some (Sum.inl ((if ¬ pv (nv 34 μ) i = noH ∧ nv 34 μ 5 i = -1 then _ else _), nI (i + 1)))
        by_cases c : pv (nv 34 μ) i = noH
        · rw [if_pos c, if_neg (fun w => w.1 c), Int32.sub_zero]
        · rw [if_neg c]
          by_cases d : nv 34 μ 5 i = -1
          · rw [if_neg (fun w => hh.mp w d), if_pos ⟨c, d⟩, Int32.sub_eq_add_neg]
          · rw [if_pos (hh.mpr d), if_neg (fun w => d w.2), Int32.sub_zero]
      · show b_X8_redundancy_80 _ (nI (nP (nv 34 μ))) ν2 = _
        unfold b_X8_redundancy_80
        rw [m_cP M2, Option.bind_some, if_pos (nI_le (Nat.le_refl _) (by omega))]
    rw [h, Option.bind_some, h']; rfl
theorem sim_21 (s1 s2 : Int32) (R : Rel μ) : simOK μ (f_case_21 s1 s2 μ) := by
  have hb := R.1.b
  refine workJ (fC := f_X7_turningHeight s1 s2 μ) (fM := f_X8_turningHeight s1 s2) R ?_
  rcases ix3 s1 (n := nN (nv 34 μ)) (by omega) with h | ⟨a, ha, rfl⟩
  · refine Or.inl ⟨μ, ?_, Fr.rf μ, 0, si μ 60 6 1, ?_, si60 1, gi_sii⟩
    · unfold f_X7_turningHeight; rw [R.co.N, needB (by omega) h]; rfl
    · unfold f_X8_turningHeight; rw [m_lineB R.mo h]; rfl
  · have C := R.co
    have hc := (C.1.line ha).cnt
    have hg := C.1.g a ha
    rcases ix3 s2 (n := ct (nv 34 μ) a) (by omega) with h | ⟨b, hbb, rfl⟩
    · refine Or.inr ⟨noH, μ, ?_, Fr.rf μ, fun ν M => ?_⟩
      · unfold f_X7_turningHeight; rw [C.N, needG (by omega) ha, Option.bind_some]
        show Option.bind (f_X3_hasSetup _ _ _) _ = _
        rw [c_has C ha, ixB (by omega) h]; rfl
      · obtain ⟨ν2, e2, F2, h2⟩ := m_lay (M.si6 0)
        have M2 := (M.si6 0).fr F2.1
        refine ⟨ν2, ?_, (si60 0).tr F2.1, F2.2.trans gi_sii⟩
        unfold f_X8_turningHeight; rw [m_lineG M ha, Option.bind_some, failG, Option.bind_some]; simp only [bF, if_true]
        rw [e2, Option.bind_some, m_setups M2 ha, Option.bind_some, rgB (by omega) h]; rfl
    · obtain ⟨ν1, e1, F1, h1⟩ := c_carry C
      have C1 := C.fr F1
      refine Or.inr ⟨if pv (nv 34 μ) (fs (nv 34 μ) a) = noH then noH else thS (nv 34 μ) a (pv (nv 34 μ) (fs (nv 34 μ) a)) (b + 1), ν1, ?_, F1, fun ν M => ?_⟩
      · unfold f_X7_turningHeight; rw [C.N, needG (by omega) ha, Option.bind_some]
        show Option.bind (f_X3_hasSetup _ _ _) _ = _
        rw [c_has C ha, ixG (by omega) hbb, Option.bind_some]; simp only [bT, if_false]
        rw [e1, Option.bind_some]
        simp (disch := omega) only [gck, nI_clamp, c_fs C1 ha, h1 _ hg.1]
        by_cases c : pv (nv 34 μ) (fs (nv 34 μ) a) = noH
        · rw [if_pos c, if_pos c]
        · rw [if_neg c, if_neg c]
          have h : gloop (fun t => b_X7_turningHeight_71 (nI a) (nI b) t.1 t.2 ν1) gFuel (pv (nv 34 μ) (fs (nv 34 μ) a), (0 : Int32)) = some (thS (nv 34 μ) a (pv (nv 34 μ) (fs (nv 34 μ) a)) (b + 1)) := by
            refine gloop_run (fun i => (thS (nv 34 μ) a (pv (nv 34 μ) (fs (nv 34 μ) a)) i, nI i)) (b + 1) (fun i hi => ?_) ?_ gFuel (by unfold gFuel; omega)
            · show b_X7_turningHeight_71 (nI a) (nI b) _ (nI i) ν1 = _
              unfold b_X7_turningHeight_71
              rw [if_neg (nI_nlt (by omega) (by omega)), if_neg (show ¬ (8 : Int32) ≤ nI i from nI_ge (b := 8) (by omega) (by decide)), c_setupRise C1 ha (by omega), Option.bind_some, nI_1]; rfl
            · show b_X7_turningHeight_71 (nI a) (nI b) _ (nI (b + 1)) ν1 = _
              unfold b_X7_turningHeight_71
              rw [if_pos (nI_lt (by omega) (by omega))]
          rw [h]; rfl
      · obtain ⟨ν2, e2, F2, h2⟩ := m_lay (M.si6 0)
        have M2 := (M.si6 0).fr F2.1
        refine ⟨ν2, ?_, (si60 0).tr F2.1, F2.2.trans gi_sii⟩
        unfold f_X8_turningHeight; rw [m_lineG M ha, Option.bind_some, failG, Option.bind_some]; simp only [bF, if_true]
        rw [e2, Option.bind_some, m_setups M2 ha, Option.bind_some, rgG (by omega) hbb, Option.bind_some]; simp only [bT, if_false]
        rw [m_first M2 ha, Option.bind_some, gck (by omega) (by decide), nI_clamp (by omega), h2 _ hg.1]
        by_cases c : pv (nv 34 μ) (fs (nv 34 μ) a) = noH
        · rw [if_pos c, if_pos c]
        · rw [if_neg c, if_neg c, Option.bind_some, gck (by omega) (by decide), nI_clamp (by omega), h2 _ hg.1]
          have h : gloop (fun t => b_X8_turningHeight_68 (nI a) (nI b) t.1 t.2 ν2) gFuel (pv (nv 34 μ) (fs (nv 34 μ) a), (0 : Int32)) = some (thS (nv 34 μ) a (pv (nv 34 μ) (fs (nv 34 μ) a)) (b + 1)) := by
            refine gloop_run (fun i => (thS (nv 34 μ) a (pv (nv 34 μ) (fs (nv 34 μ) a)) i, nI i)) (b + 1) (fun i hi => ?_) ?_ gFuel (by unfold gFuel; omega)
            · show b_X8_turningHeight_68 (nI a) (nI b) _ (nI i) ν2 = _
              unfold b_X8_turningHeight_68
              rw [if_neg (nI_nlt (by omega) (by omega)), m_step M2 ha (by omega), Option.bind_some, nI_1]; rfl
            · show b_X8_turningHeight_68 (nI a) (nI b) _ (nI (b + 1)) ν2 = _
              unfold b_X8_turningHeight_68
              rw [if_pos (nI_lt (by omega) (by omega))]
          rw [h]; rfl
end G6

theorem bF : (b2i false = 0) = True := eq_true rfl
theorem bT : (b2i true = 0) = False := eq_false (by decide)
def wrapI (fC : Option (Option Int32)) (μ : gM) : Option (Int32 × gM) := Option.bind fC (fun q1 => Option.elim q1 (some ((1 : Int32), μ)) (fun v2 => gchk (gIn (0 : Int32) 1) (some ((0 : Int32), (sl μ 77 (0 : Int32).toNatClampNeg v2.toInt64)))))
def wrapJ (fC : Option (Option Int64)) (μ : gM) : Option (Int32 × gM) := Option.bind fC (fun q1 => Option.elim q1 (some ((1 : Int32), μ)) (fun v2 => gchk (gIn (0 : Int32) 1) (some ((0 : Int32), (sl μ 77 (0 : Int32).toNatClampNeg v2)))))
theorem pureI {μ : gM} (R : Rel μ) {fC : Option (Option Int32)} {fM : gM → Option (Int32 × gM)} (h : (fC = some none ∧ fM μ = some (0, si μ 60 6 1)) ∨ ∃ w, fC = some (some w) ∧ ∀ ν, MO (nv 34 μ) ν → fM ν = some (w, si ν 60 6 0)) : simOK μ (caseI (wrapI fC μ) fM) := by
  rcases h with ⟨h1, h2⟩ | ⟨w, h1, h2⟩
  · exact caseI_bad (μ1 := μ) (by rw [h1]; rfl) h2 gi_sii (R.fr (si60 1))
  · exact caseI_good (μ1 := μ) (by rw [h1]; rfl) (h2 _ (R.sl77 0 _).mo) gi_sii ((Fr.rf _).si rfl) R
section MC
variable {v : Nat → Nat → Int32} {ν : gM}
theorem MO.cL (M : MO v ν) : gi ν 66 0 = nI (nL v) := M.2.2.1.1.trans M.1.1.1
theorem MO.cP (M : MO v ν) : gi ν 66 1 = nI (nP v) := M.2.2.1.2.1.trans M.1.1.2.1
theorem MO.cN (M : MO v ν) : gi ν 66 2 = nI (nN v) := M.2.2.1.2.2.1.trans M.1.1.2.2.1
theorem MO.cT (M : MO v ν) : gi ν 66 3 = nI (nT v) := M.2.2.1.2.2.2.trans M.1.1.2.2.2.1
theorem m_cN (M : MO v ν) : f_X8_count (2 : Int32) ν = some (nI (nN v)) := cnt0 2 (by decide) M.cN
theorem m_cP (M : MO v ν) : f_X8_count (1 : Int32) ν = some (nI (nP v)) := cnt0 1 (by decide) M.cP
theorem m_cT (M : MO v ν) : f_X8_count (3 : Int32) ν = some (nI (nT v)) := cnt0 3 (by decide) M.cT
theorem m_lineB {x : Int32} (M : MO v ν) (h : x < 0 ∨ nI (nN v) ≤ x) : f_X8_isLine x ν = some false := by
  have hb := M.1.b
  unfold f_X8_isLine
  rw [m_cN M, Option.bind_some, rgB (by omega) h]; rfl
theorem m_lineG {a : Nat} (M : MO v ν) (h : a < nN v) : f_X8_isLine (nI a) ν = some true := by
  have hb := M.1.b
  unfold f_X8_isLine
  rw [m_cN M, Option.bind_some, rgG (by omega) h]; rfl
theorem m_pointB {x : Int32} (M : MO v ν) (h : x < 0 ∨ nI (nP v) ≤ x) : f_X8_isPoint x ν = some false := by
  have hb := M.1.b
  unfold f_X8_isPoint
  rw [m_cP M, Option.bind_some, rgB (by omega) h]; rfl
theorem m_pointG {a : Nat} (M : MO v ν) (h : a < nP v) : f_X8_isPoint (nI a) ν = some true := by
  have hb := M.1.b
  unfold f_X8_isPoint
  rw [m_cP M, Option.bind_some, rgG (by omega) h]; rfl
theorem m_testB {x : Int32} (M : MO v ν) (h : x < 0 ∨ nI (nT v) ≤ x) : f_X8_isTest x ν = some false := by
  have hb := M.1.b
  unfold f_X8_isTest
  rw [m_cT M, Option.bind_some, rgB (by omega) h]; rfl
theorem m_testG {a : Nat} (M : MO v ν) (h : a < nT v) : f_X8_isTest (nI a) ν = some true := by
  have hb := M.1.b
  unfold f_X8_isTest
  rw [m_cT M, Option.bind_some, rgG (by omega) h]; rfl
theorem MO.si6 (M : MO v ν) (x : Int32) : MO v (si ν 60 6 x) := M.fr (si60 x)
end MC
theorem ix3 (x : Int32) {n : Nat} (hn : n < 2 ^ 31) : (x < 0 ∨ nI n ≤ x) ∨ ∃ a, a < n ∧ x = nI a := by
  rcases pk_ix x hn with h | h | h
  · exact Or.inl (Or.inl h)
  · exact Or.inl (Or.inr h)
  · exact Or.inr h
def prp (v : Nat → Nat → Int32) (k : Nat) (x : Int32) : Int32 := if x = 0 then nI (fs v k) else if x = 1 then nI (sn v k) else if x = 2 then nI (lv v k) else if x = 3 then nI (ct v k) else if x = 4 then (if (nA v).testBit k then 1 else 0) else if x = 5 then nI (ln v k) else if x = 6 then nI (1000000 / ln v k) else -2
section G2
variable {v : Nat → Nat → Int32} {μ ν : gM} {k : Nat}
theorem c_prop (C : CO v μ) (hk : k < nN v) (x : Int32) : f_X7_lineProperty (nI k) x μ = some (some (prp v k x)) := by
  have hb := C.1.b
  have hl := C.1.line hk
  unfold f_X7_lineProperty prp
  rw [C.N, needG (by omega) hk, Option.bind_some]
  show (if x = 0 then _ else _) = _
  by_cases e0 : x = 0
  · rw [if_pos e0, if_pos e0]; simp (disch := omega) only [gck, nI_clamp, c_fs C hk]
  rw [if_neg e0, if_neg e0]
  by_cases e0 : x = 1
  · rw [if_pos e0, if_pos e0]; simp (disch := omega) only [gck, nI_clamp, c_sn C hk]
  rw [if_neg e0, if_neg e0]
  by_cases e0 : x = 2
  · rw [if_pos e0, if_pos e0]; simp (disch := omega) only [gck, nI_clamp]; exact congrArg (fun q => some (some q)) ((C.at 8 k (by decide)).trans hl.2.2.2.2.2.1)
  rw [if_neg e0, if_neg e0]
  by_cases e0 : x = 3
  · rw [if_pos e0, if_pos e0]; simp (disch := omega) only [gck, nI_clamp, c_ct C hk]
  rw [if_neg e0, if_neg e0]
  by_cases e0 : x = 4
  · rw [if_pos e0, if_pos e0, c_isActive C hk, Option.bind_some]; cases (nA v).testBit k <;> rfl
  rw [if_neg e0, if_neg e0]
  by_cases e0 : x = 5
  · rw [if_pos e0, if_pos e0, c_lineLength C hk]; rfl
  rw [if_neg e0, if_neg e0]
  by_cases e0 : x = 6
  · rw [if_pos e0, if_pos e0, c_lineWeight C hk]; rfl
  rw [if_neg e0, if_neg e0]
theorem m_prop (M : MO v ν) (hk : k < nN v) (x : Int32) : f_X8_lineProperty (nI k) x ν = some (prp v k x, si ν 60 6 0) := by
  have hb := M.1.b
  have hl := M.1.line hk
  have M1 := M.si6 0
  unfold f_X8_lineProperty prp
  rw [m_lineG M hk, Option.bind_some, failG, Option.bind_some]
  simp only [bF, if_true]
  by_cases e0 : x = 0
  · rw [if_pos e0, if_pos e0, m_first M1 hk]; rfl
  rw [if_neg e0, if_neg e0]
  by_cases e0 : x = 1
  · rw [if_pos e0, if_pos e0, m_second M1 hk]; rfl
  rw [if_neg e0, if_neg e0]
  by_cases e0 : x = 2
  · rw [if_pos e0, if_pos e0]; simp (disch := omega) only [n44, nI_add, gck, nI_clamp]; exact congrArg (fun q => some (q, si ν 60 6 0)) ((M1.2.2.2.1 k hk).2.2.trans hl.2.2.2.2.2.1)
  rw [if_neg e0, if_neg e0]
  by_cases e0 : x = 3
  · rw [if_pos e0, if_pos e0, m_setups M1 hk]; rfl
  rw [if_neg e0, if_neg e0]
  by_cases e0 : x = 4
  · rw [if_pos e0, if_pos e0]; simp (disch := omega) only [n22, nI_add, gck, nI_clamp]; exact congrArg (fun q => some (q, si ν 60 6 0)) (M1.2.1.2.2.2.2.1 k hk)
  rw [if_neg e0, if_neg e0]
  by_cases e0 : x = 5
  · rw [if_pos e0, if_pos e0, m_length M1 hk]; rfl
  rw [if_neg e0, if_neg e0]
  by_cases e0 : x = 6
  · rw [if_pos e0, if_pos e0, m_weight M1 hk]; rfl
  rw [if_neg e0, if_neg e0]
end G2
section G3
variable {μ : gM}
theorem sim_14 (s1 s2 : Int32) (R : Rel μ) : simOK μ (f_case_14 s1 s2 μ) := by
  have hb := R.1.b
  refine pureI (fC := f_X7_lineProperty s1 s2 μ) (fM := f_X8_lineProperty s1 s2) R ?_
  rcases ix3 s1 (n := nN (nv 34 μ)) (by omega) with h | ⟨a, ha, rfl⟩
  · refine Or.inl ⟨?_, ?_⟩
    · unfold f_X7_lineProperty; rw [R.co.N, needB (by omega) h]; rfl
    · unfold f_X8_lineProperty; rw [m_lineB R.mo h]; rfl
  · exact Or.inr ⟨_, c_prop R.co ha s2, fun ν M => m_prop M ha s2⟩
theorem sim_15 (s1 s2 s3 : Int32) (R : Rel μ) : simOK μ (f_case_15 s1 s2 s3 μ) := by
  have hb := R.1.b
  refine pureI (fC := f_X7_reading s1 s2 s3 μ) (fM := f_X8_reading s1 s2 s3) R ?_
  rcases ix3 s1 (n := nN (nv 34 μ)) (by omega) with h | ⟨a, ha, rfl⟩
  · refine Or.inl ⟨?_, ?_⟩
    · unfold f_X7_reading; rw [R.co.N, needB (by omega) h]; rfl
    · unfold f_X8_reading; rw [m_lineB R.mo h]; rfl
  · have C := R.co
    have hc := (C.1.line ha).cnt
    have hh : ∀ x, f_X3_hasSetup (nI a) x μ = f_X7_isIndex x (nI (ct (nv 34 μ) a)) μ := fun x => by
      unfold f_X3_hasSetup
      rw [gck (by omega) (by decide), nI_clamp (by omega), c_ct C ha]
      cases f_X7_isIndex x (nI (ct (nv 34 μ) a)) μ <;> rfl
    rcases ix3 s2 (n := ct (nv 34 μ) a) (by omega) with h | ⟨b, hbb, rfl⟩
    · refine Or.inr ⟨-1, ?_, fun ν M => ?_⟩
      · unfold f_X7_reading; rw [R.co.N, needG (by omega) ha, Option.bind_some]; show Option.bind (f_X3_hasSetup _ _ _) _ = _; rw [hh, ixB (by omega) h]; rfl
      · unfold f_X8_reading; rw [m_lineG M ha, Option.bind_some, failG, Option.bind_some]; simp only [bF, if_true]; rw [m_setups (M.si6 0) ha, Option.bind_some, rgB (by omega) h]; rfl
    · rcases ix3 s3 (n := 4) (by omega) with h | ⟨w, hw, rfl⟩
      · refine Or.inr ⟨-2, ?_, fun ν M => ?_⟩
        · unfold f_X7_reading; rw [R.co.N, needG (by omega) ha, Option.bind_some]; show Option.bind (f_X3_hasSetup _ _ _) _ = _; rw [hh, ixG (by omega) hbb, Option.bind_some]; simp only [bT, if_false]; rw [n4, ixB (by omega) h]; rfl
        · unfold f_X8_reading; rw [m_lineG M ha, Option.bind_some, failG, Option.bind_some]; simp only [bF, if_true]; rw [m_setups (M.si6 0) ha, Option.bind_some, rgG (by omega) hbb, Option.bind_some]; simp only [bT, if_false]; rw [show (3 : Int32) = nI 4 - 1 from by decide, rgB (by omega) h]; rfl
      · refine Or.inr ⟨nv 34 μ 10 (32 * a + 4 * b + w), ?_, fun ν M => ?_⟩
        · unfold f_X7_reading; rw [R.co.N, needG (by omega) ha, Option.bind_some]; show Option.bind (f_X3_hasSetup _ _ _) _ = _; rw [hh, ixG (by omega) hbb, Option.bind_some]; simp only [bT, if_false]
          rw [n4, ixG (by omega) hw, Option.bind_some]; simp only [bT, if_false]
          rw [c_place (by omega) (by omega), Option.bind_some, nI_add, gck (by omega) (by decide), nI_clamp (by omega)]
          rfl
        · unfold f_X8_reading; rw [m_lineG M ha, Option.bind_some, failG, Option.bind_some]; simp only [bF, if_true]; rw [m_setups (M.si6 0) ha, Option.bind_some, rgG (by omega) hbb, Option.bind_some]; simp only [bT, if_false]
          rw [show (3 : Int32) = nI 4 - 1 from by decide, rgG (by omega) hw, Option.bind_some]; simp only [bT, if_false]
          rw [m_of (M.si6 0) ha hbb hw]; rfl
theorem sim_16 (s1 s2 : Int32) (R : Rel μ) : simOK μ (f_case_16 s1 s2 μ) := by
  have hb := R.1.b
  refine pureI (fC := f_X7_stepOf s1 s2 μ) (fM := f_X8_stepOf s1 s2) R ?_
  rcases ix3 s1 (n := nN (nv 34 μ)) (by omega) with h | ⟨a, ha, rfl⟩
  · refine Or.inl ⟨?_, ?_⟩
    · unfold f_X7_stepOf; rw [R.co.N, needB (by omega) h]; rfl
    · unfold f_X8_stepOf; rw [m_lineB R.mo h]; rfl
  · have C := R.co
    have hc := (C.1.line ha).cnt
    have hh : ∀ x, f_X3_hasSetup (nI a) x μ = f_X7_isIndex x (nI (ct (nv 34 μ) a)) μ := fun x => by
      unfold f_X3_hasSetup
      rw [gck (by omega) (by decide), nI_clamp (by omega), c_ct C ha]
      cases f_X7_isIndex x (nI (ct (nv 34 μ) a)) μ <;> rfl
    rcases ix3 s2 (n := ct (nv 34 μ) a) (by omega) with h | ⟨b, hbb, rfl⟩
    · refine Or.inr ⟨-2147483648, ?_, fun ν M => ?_⟩
      · unfold f_X7_stepOf; rw [R.co.N, needG (by omega) ha, Option.bind_some]; show Option.bind (f_X3_hasSetup _ _ _) _ = _; rw [hh, ixB (by omega) h]; rfl
      · unfold f_X8_stepOf; rw [m_lineG M ha, Option.bind_some, failG, Option.bind_some]; simp only [bF, if_true]; rw [m_setups (M.si6 0) ha, Option.bind_some, rgB (by omega) h]; rfl
    · refine Or.inr ⟨stp (nv 34 μ) a b, ?_, fun ν M => ?_⟩
      · unfold f_X7_stepOf; rw [R.co.N, needG (by omega) ha, Option.bind_some]; show Option.bind (f_X3_hasSetup _ _ _) _ = _; rw [hh, ixG (by omega) hbb, Option.bind_some]; simp only [bT, if_false]; rw [c_setupRise C ha hbb]; rfl
      · unfold f_X8_stepOf; rw [m_lineG M ha, Option.bind_some, failG, Option.bind_some]; simp only [bF, if_true]; rw [m_setups (M.si6 0) ha, Option.bind_some, rgG (by omega) hbb, Option.bind_some]; simp only [bT, if_false]; rw [m_step (M.si6 0) ha hbb]; rfl
theorem sim_17 (s1 : Int32) (R : Rel μ) : simOK μ (f_case_17 s1 μ) := by
  have hb := R.1.b
  refine pureI (fC := f_X7_riseOf s1 μ) (fM := f_X8_riseOf s1) R ?_
  rcases ix3 s1 (n := nN (nv 34 μ)) (by omega) with h | ⟨a, ha, rfl⟩
  · refine Or.inl ⟨?_, ?_⟩
    · unfold f_X7_riseOf; rw [R.co.N, needB (by omega) h]; rfl
    · unfold f_X8_riseOf; rw [m_lineB R.mo h]; rfl
  · refine Or.inr ⟨ris (nv 34 μ) a, ?_, fun ν M => ?_⟩
    · unfold f_X7_riseOf; rw [R.co.N, needG (by omega) ha, Option.bind_some]; show Option.bind (f_X3_lineRise _ _) _ = _; rw [c_lineRise R.co ha]; rfl
    · unfold f_X8_riseOf; rw [m_lineG M ha, Option.bind_some, failG, Option.bind_some]; simp only [bF, if_true]; rw [m_rise (M.si6 0) ha]; rfl
theorem sim_18 (s1 : Int32) (R : Rel μ) : simOK μ (f_case_18 s1 μ) := by
  have hb := R.1.b
  refine pureI (fC := f_X7_collimationEffect s1 μ) (fM := f_X8_collimationEffect s1) R ?_
  rcases ix3 s1 (n := nN (nv 34 μ)) (by omega) with h | ⟨a, ha, rfl⟩
  · refine Or.inl ⟨?_, ?_⟩
    · unfold f_X7_collimationEffect; rw [R.co.N, needB (by omega) h]; rfl
    · unfold f_X8_collimationEffect; rw [m_lineB R.mo h]; rfl
  · have C := R.co
    have hl := (C.1.line ha).2.2.2.2.2
    have hv := hl.2.1
    have e : gi μ 42 a = nI (lv (nv 34 μ) a) := (C.at 8 a (by decide)).trans hl.1
    refine Or.inr ⟨(-(nv 34 μ 3 (lv (nv 34 μ) a))) * (nI (sm (nv 34 μ) a 2 (ct (nv 34 μ) a)) - nI (sm (nv 34 μ) a 3 (ct (nv 34 μ) a))), ?_, fun ν M => ?_⟩
    · unfold f_X7_collimationEffect; rw [R.co.N, needG (by omega) ha, Option.bind_some]; show gchk (gIn (nI a) 20) _ = _
      simp (disch := omega) only [gck, nI_clamp, e]
      rw [c_lineImbalance C ha]; rfl
    · unfold f_X8_collimationEffect; rw [m_lineG M ha, Option.bind_some, failG, Option.bind_some]; simp only [bF, if_true]; rw [m_coll (M.si6 0) ha, Option.bind_some, m_balance (M.si6 0) ha]; rfl
theorem sim_19 (s1 : Int32) (R : Rel μ) : simOK μ (f_case_19 s1 μ) := by
  have hb := R.1.b
  refine pureI (fC := f_X7_imbalance s1 μ) (fM := f_X8_imbalance s1) R ?_
  rcases ix3 s1 (n := nN (nv 34 μ)) (by omega) with h | ⟨a, ha, rfl⟩
  · refine Or.inl ⟨?_, ?_⟩
    · unfold f_X7_imbalance; rw [R.co.N, needB (by omega) h]; rfl
    · unfold f_X8_imbalance; rw [m_lineB R.mo h]; rfl
  · refine Or.inr ⟨nI (sm (nv 34 μ) a 2 (ct (nv 34 μ) a)) - nI (sm (nv 34 μ) a 3 (ct (nv 34 μ) a)), ?_, fun ν M => ?_⟩
    · unfold f_X7_imbalance; rw [R.co.N, needG (by omega) ha, Option.bind_some]; show Option.bind (f_X3_lineImbalance _ _) _ = _; rw [c_lineImbalance R.co ha]; rfl
    · unfold f_X8_imbalance; rw [m_lineG M ha, Option.bind_some, failG, Option.bind_some]; simp only [bF, if_true]; rw [m_balance (M.si6 0) ha]; rfl
end G3

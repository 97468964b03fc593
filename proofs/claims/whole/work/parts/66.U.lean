/-! readings, setups, settings, undo -/
theorem c_fits {μ : gM} {w : Nat} (hw : w < 4) (x : Int32) [Decidable (gdN w x)] : f_X7_fits (nI w) x μ = some (decide (gdN w x)) := by
  have h0 : (0 : Int32).toInt = 0 := by decide
  have h1 : (1 : Int32).toInt = 1 := by decide
  have hA : (40000 : Int32).toInt = 40000 := by decide
  have hB : (100 : Int32).toInt = 100 := by decide
  have key : ∀ lo hi : Int32, sc 0 w = lo → sc 1 w = hi → (gdN w x ↔ inR lo.toInt hi.toInt x) → f_X7_fits (nI w) x μ = some (decide (gdN w x)) := by
    intro lo hi e1 e2 e3
    unfold f_X7_fits
    simp (disch := omega) only [gck, nI_clamp]
    rw [e1, e2]
    have := rg_d lo hi x μ
    unfold f_X8_inRange at this
    rw [this]
    exact congrArg some (decide_eq_decide.mpr e3.symm)
  have h4 : w = 0 ∨ w = 1 ∨ w = 2 ∨ w = 3 := by omega
  rcases h4 with h | h | h | h <;> subst h
  · exact key 0 40000 (by decide) (by decide) (by rw [h0, hA]; exact Iff.rfl)
  · exact key 0 40000 (by decide) (by decide) (by rw [h0, hA]; exact Iff.rfl)
  · exact key 1 100 (by decide) (by decide) (by rw [h1, hB]; exact Iff.rfl)
  · exact key 1 100 (by decide) (by decide) (by rw [h1, hB]; exact Iff.rfl)
theorem m_isNum {μ : gM} {w : Nat} (hw : w < 4) (x : Int32) [Decidable (gdN w x)] : f_X8_isNumber (nI w) x μ = some (decide (gdN w x)) := by
  have h0 : (0 : Int32).toInt = 0 := by decide
  have h1 : (1 : Int32).toInt = 1 := by decide
  have hA : (40000 : Int32).toInt = 40000 := by decide
  have hB : (100 : Int32).toInt = 100 := by decide
  unfold f_X8_isNumber
  rw [rg_d, rg_d, h0, h1, hA, hB, Option.bind_some, Option.bind_some, n2]
  by_cases c : w < 2
  · rw [if_neg (nI_ge c (by decide))]
    exact congrArg some (decide_eq_decide.mpr (by unfold gdN; rw [if_pos c]))
  · rw [if_pos (nI_le (by omega) (by omega))]
    exact congrArg some (decide_eq_decide.mpr (by unfold gdN; rw [if_neg c]))
theorem c_fitsG {μ : gM} {w : Nat} (hw : w < 4) {x : Int32} (h : gdN w x) : f_X7_fits (nI w) x μ = some true := by
  have : Decidable (gdN w x) := isTrue h
  rw [c_fits hw, decide_eq_true h]
theorem c_fitsB {μ : gM} {w : Nat} (hw : w < 4) {x : Int32} (h : ¬ gdN w x) : f_X7_fits (nI w) x μ = some false := by
  have : Decidable (gdN w x) := isFalse h
  rw [c_fits hw, decide_eq_false h]
theorem m_numG {μ : gM} {w : Nat} (hw : w < 4) {x : Int32} (h : gdN w x) : f_X8_isNumber (nI w) x μ = some true := by
  have : Decidable (gdN w x) := isTrue h
  rw [m_isNum hw, decide_eq_true h]
theorem m_numB {μ : gM} {w : Nat} (hw : w < 4) {x : Int32} (h : ¬ gdN w x) : f_X8_isNumber (nI w) x μ = some false := by
  have : Decidable (gdN w x) := isFalse h
  rw [m_isNum hw, decide_eq_false h]
section GA
variable {μ : gM}
theorem m_setupAt {ν : gM} (k s w : Nat) : f_X8_setupAt (nI k) (nI s) (nI w) ν = some (nI (62 + (32 * k + 4 * s + w))) := by
  unfold f_X8_setupAt
  simp only [n62, n32, n4, pk_mul, nI_add]
  exact congrArg (fun q => some (nI q)) (by omega)
theorem sim_54 (s1 s2 s3 s4 : Int32) (R : Rel μ) : simOK μ (f_case_54 s1 s2 s3 s4 μ) := by
  have hb := R.1.b
  have M1 := R.mo.si6 0
  have C := R.co
  have bad : ∀ w : Int32, f_X7_setReading s1 s2 s3 s4 μ = some (w, μ) → f_X8_setReading s1 s2 s3 s4 μ = some (w, si μ 60 6 0) → simOK μ (f_case_54 s1 s2 s3 s4 μ) := fun w h1 h2 => caseW (fC := f_X7_setReading s1 s2 s3 s4 μ) (fM := f_X8_setReading s1 s2 s3 s4) h1 h2 (R.fr (si60 0))
  rcases ix3 s1 (n := nN (nv 34 μ)) (by omega) with h | ⟨a, ha, rfl⟩
  · refine bad (-1) ?_ ?_
    · unfold f_X7_setReading; rw [C.N, ixB (by omega) h]; rfl
    · unfold f_X8_setReading; rw [m_lineB M1 h]; rfl
  have hl := C.1.line ha
  have hc := hl.cnt
  rcases ix3 s2 (n := ct (nv 34 μ) a) (by omega) with h | ⟨b, hbb, rfl⟩
  · refine bad (-1) ?_ ?_
    · unfold f_X7_setReading; rw [C.N, ixG (by omega) ha, Option.bind_some]; simp only [bT, if_false]; rw [c_has C ha, ixB (by omega) h]; rfl
    · unfold f_X8_setReading; rw [m_lineG M1 ha, Option.bind_some]; simp only [bT, if_false]; rw [m_setups M1 ha, Option.bind_some, rgB (by omega) h]; rfl
  rcases ix3 s3 (n := 4) (by decide) with h | ⟨w, hw, rfl⟩
  · refine bad (-2) ?_ ?_
    · unfold f_X7_setReading; rw [C.N, ixG (by omega) ha, Option.bind_some]; simp only [bT, if_false]; rw [c_has C ha, ixG (by omega) hbb, Option.bind_some]; simp only [bT, if_false]; rw [n4, ixB (by decide) h]; rfl
    · unfold f_X8_setReading; rw [m_lineG M1 ha, Option.bind_some]; simp only [bT, if_false]; rw [m_setups M1 ha, Option.bind_some, rgG (by omega) hbb, Option.bind_some]; simp only [bT, if_false]; rw [show (3 : Int32) = nI 4 - 1 from by decide, rgB (by decide) h]; rfl
  by_cases hx : gdN w s4
  · obtain ⟨n, o, h8, h8o, hn, hm, ho, hR⟩ := R.2.2.2.2.2.2
    obtain ⟨y, hy⟩ : ∃ y, y = 32 * a + 4 * b + w := ⟨_, rfl⟩
    have hy6 : y < 640 := by omega
    obtain ⟨μ1, e1, kp, g0, f1, f2⟩ := c_keep hn ho h8 h8o R.hm.1 (1 : Int32) (nI y) (gi μ 44 y)
    have C2 : CI (vset (nv 34 μ) 10 y s4) := by rw [hy]; exact CI_v10 R.1 ha hw hx
    obtain ⟨f3, f4⟩ := f3_si (μ1 := μ1) (K := 44) (i := y) (x := s4) (by decide)
    have hv : nv 34 (si μ1 44 y s4) = vset (nv 34 μ) 10 y s4 := (nv_si (j := 10) (by decide)).trans (by rw [nv_keep f1])
    have F2 := FM_vs (i := y) (y := s4) (j := 10) (by omega) R.2.2.1
    obtain ⟨ν1, e2, d1, d2, d3, d4⟩ := chg R h8 h8o hm hR kp g0 f1 f2 f3 f4 hv (Or.inr (Or.inl ⟨rfl, a, b, w, ha, hbb, hw, by rw [hy], by
      rw [← hy, show gi μ 44 y = nv 34 μ 10 y from rfl, vs_back]; exact eqN.rf _⟩)) C2 F2
    obtain ⟨t1, t2⟩ := d61 d1 (62 + y) s4 (by omega)
    obtain ⟨t3, t4⟩ := fin61 (ν1 := ν1) (y := 62 + y) (x := s4)
    have D3 : DM (vset (nv 34 μ) 10 y s4) ((si ν1 61 (62 + y) s4).1 61) := DM_of R.1 R.2.1 (Or.inr (Or.inr (Or.inr ⟨rfl, rfl⟩))) t1
    have R3 := d4 _ t3 t4 D3 t2
    have M := keep_m R f1 f3
    have Mn : MO (nv 34 μ) ν1 := R.mo.cg (fun i hi => (d1 i).trans (if_neg (by omega))) d2
    refine caseW (fC := f_X7_setReading (nI a) (nI b) (nI w) s4 μ) (fM := f_X8_setReading (nI a) (nI b) (nI w) s4) (w := nv 34 μ 10 y) (μc := si μ1 44 y s4) ?_ ?_ R3
    · unfold f_X7_setReading; rw [C.N, ixG (by omega) ha, Option.bind_some]; simp only [bT, if_false]; rw [c_has C ha, ixG (by omega) hbb, Option.bind_some]; simp only [bT, if_false]; rw [n4, ixG (by decide) hw, Option.bind_some]; simp only [bT, if_false]
      rw [c_fitsG hw hx, Option.bind_some]; simp only [bT, if_false]
      rw [c_place (by omega) (by omega), Option.bind_some, nI_add, ← hy]
      simp (disch := omega) only [gck, nI_clamp]
      rw [e1]; rfl
    · unfold f_X8_setReading; rw [m_lineG M ha, Option.bind_some]; simp only [bT, if_false]; rw [m_setups M ha, Option.bind_some, rgG (by omega) hbb, Option.bind_some]; simp only [bT, if_false]; rw [show (3 : Int32) = nI 4 - 1 from by decide, rgG (by decide) hw, Option.bind_some]; simp only [bT, if_false]
      rw [m_numG hw hx, Option.bind_some]; simp only [bT, if_false]
      rw [e2, Option.bind_some, m_of Mn ha hbb hw, Option.bind_some, m_setupAt, Option.bind_some, ← hy, gck (by omega) (by decide), nI_clamp (by omega)]
  · refine bad (-2) ?_ ?_
    · unfold f_X7_setReading; rw [C.N, ixG (by omega) ha, Option.bind_some]; simp only [bT, if_false]; rw [c_has C ha, ixG (by omega) hbb, Option.bind_some]; simp only [bT, if_false]; rw [n4, ixG (by decide) hw, Option.bind_some]; simp only [bT, if_false]
      rw [c_fitsB hw hx]; rfl
    · unfold f_X8_setReading; rw [m_lineG M1 ha, Option.bind_some]; simp only [bT, if_false]; rw [m_setups M1 ha, Option.bind_some, rgG (by omega) hbb, Option.bind_some]; simp only [bT, if_false]; rw [show (3 : Int32) = nI 4 - 1 from by decide, rgG (by decide) hw, Option.bind_some]; simp only [bT, if_false]
      rw [m_numB hw hx]; rfl
theorem sim_60 (s1 s2 : Int32) (R : Rel μ) : simOK μ (f_case_60 s1 s2 μ) := by
  have M1 := R.mo.si6 0
  have bad : ∀ w : Int32, f_X7_setSetting s1 s2 μ = some (w, μ) → f_X8_setSetting s1 s2 μ = some (w, si μ 60 6 0) → simOK μ (f_case_60 s1 s2 μ) := fun w h1 h2 => caseW (fC := f_X7_setSetting s1 s2 μ) (fM := f_X8_setSetting s1 s2) h1 h2 (R.fr (si60 0))
  rcases ix3 s1 (n := 3) (by decide) with h | ⟨a, ha, rfl⟩
  · refine bad (-2) ?_ ?_
    · unfold f_X7_setSetting; rw [n3, ixB (by decide) h]; rfl
    · unfold f_X8_setSetting; rw [show (2 : Int32) = nI 3 - 1 from by decide, rgB (by decide) h]; rfl
  obtain ⟨lo, hi, l1, l2, l3, l4, l5, l6⟩ : ∃ lo hi : Int32, sc 2 a = lo ∧ sc 3 a = hi ∧ (∀ ν, f_X8_leastOf (nI a) ν = some lo) ∧ (∀ ν, f_X8_mostOf (nI a) ν = some hi) ∧ lo.toInt = stLo a ∧ hi.toInt = stHi a := by
    have h3 : a = 0 ∨ a = 1 ∨ a = 2 := by omega
    rcases h3 with h | h | h <;> subst h
    · exact ⟨0, 500, by decide, by decide, fun _ => rfl, fun _ => rfl, by decide, by decide⟩
    · exact ⟨1, 100, by decide, by decide, fun _ => rfl, fun _ => rfl, by decide, by decide⟩
    · exact ⟨0, 800, by decide, by decide, fun _ => rfl, fun _ => rfl, by decide, by decide⟩
  have hcl : f_X7_setSetting (nI a) s2 μ = (if inR lo.toInt hi.toInt s2 then Option.bind (f_X7_keepBefore (5 : Int32) (nI a) (gi μ 35 a) μ) (fun q8 => some (gi μ 35 a, si q8 35 a s2)) else some (-2, μ)) := by
    unfold f_X7_setSetting
    rw [n3, ixG (by decide) ha, Option.bind_some]; simp only [bT, if_false]
    simp (disch := omega) only [gck, nI_clamp]
    rw [l1, l2]
    by_cases c : s2 < lo
    · rw [if_pos c, if_neg (fun w : inR lo.toInt hi.toInt s2 => by rw [Int32.lt_iff_toInt_lt] at c; omega)]
    · rw [if_neg c]
      rw [Int32.lt_iff_toInt_lt] at c
      by_cases d : s2 ≤ hi
      · rw [if_pos d]
        rw [Int32.le_iff_toInt_le] at d
        rw [if_pos (show inR lo.toInt hi.toInt s2 by omega)]
      · rw [if_neg d]
        rw [Int32.le_iff_toInt_le] at d
        rw [if_neg (fun w : inR lo.toInt hi.toInt s2 => by omega)]
  have hml : ∀ ν, f_X8_setSetting (nI a) s2 ν = (if inR lo.toInt hi.toInt s2 then Option.bind (f_X8_changes (si ν 60 6 0)) (fun q7 => some (gi q7 61 a, si q7 61 a s2)) else some (-2, si ν 60 6 0)) := fun ν => by
    unfold f_X8_setSetting
    rw [show (2 : Int32) = nI 3 - 1 from by decide, rgG (by decide) ha, Option.bind_some]; simp only [bT, if_false]
    rw [l3, l4, Option.bind_some, Option.bind_some, rg_d, Option.bind_some]
    simp (disch := omega) only [gck, nI_clamp]
    by_cases d : inR lo.toInt hi.toInt s2
    · rw [decide_eq_true d, if_neg (by decide), if_pos d]
    · rw [decide_eq_false d, if_pos (show b2i false = 0 from rfl), if_neg d]
  by_cases hx : inR lo.toInt hi.toInt s2
  · obtain ⟨n, o, h8, h8o, hn, hm, ho, hR⟩ := R.2.2.2.2.2.2
    obtain ⟨μ1, e1, kp, g0, f1, f2⟩ := c_keep hn ho h8 h8o R.hm.1 (5 : Int32) (nI a) (gi μ 35 a)
    have C2 : CI (vset (nv 34 μ) 1 a s2) := CI_v1 R.1 ha (by rw [← l5, ← l6]; exact hx)
    obtain ⟨f3, f4⟩ := f3_si (μ1 := μ1) (K := 35) (i := a) (x := s2) (by decide)
    have hv : nv 34 (si μ1 35 a s2) = vset (nv 34 μ) 1 a s2 := (nv_si (j := 1) (by decide)).trans (by rw [nv_keep f1])
    have F2 := FM_vs (i := a) (y := s2) (j := 1) (by omega) R.2.2.1
    obtain ⟨ν1, e2, d1, d2, d3, d4⟩ := chg R h8 h8o hm hR kp g0 f1 f2 f3 f4 hv (Or.inr (Or.inr (Or.inr (Or.inr (Or.inr (Or.inl ⟨rfl, a, ha, rfl, by
      rw [show gi μ 35 a = nv 34 μ 1 a from rfl, vs_back]; exact eqN.rf _⟩)))))) C2 F2
    obtain ⟨t1, t2⟩ := d61 d1 a s2 (by omega)
    obtain ⟨t3, t4⟩ := fin61 (ν1 := ν1) (y := a) (x := s2)
    have D3 : DM (vset (nv 34 μ) 1 a s2) ((si ν1 61 a s2).1 61) := DM_of R.1 R.2.1 (Or.inl ⟨rfl, ha, rfl⟩) t1
    have R3 := d4 _ t3 t4 D3 t2
    refine caseW (fC := f_X7_setSetting (nI a) s2 μ) (fM := f_X8_setSetting (nI a) s2) (w := nv 34 μ 1 a) (μc := si μ1 35 a s2) ?_ ?_ R3
    · rw [hcl, if_pos hx, e1]; rfl
    · rw [hml, if_pos hx, e2, Option.bind_some, show gi ν1 61 a = nv 34 μ 1 a from (d1 _).trans ((if_neg (by omega)).trans (R.2.1.1 a ha))]
  · exact bad (-2) (by rw [hcl, if_neg hx]) (by rw [hml, if_neg hx])
end GA

/-! what the relation gives -/
section RG
variable {μ : gM}
theorem nv_at (j i : Nat) (h : j < 13) : nv 34 μ j i = gi μ (34 + j) i := if_pos h
abbrev gP (μ : gM) : Nat := nP (nv 34 μ)
abbrev gLv (μ : gM) : Nat := nL (nv 34 μ)
abbrev gN (μ : gM) : Nat := nN (nv 34 μ)
abbrev gTs (μ : gM) : Nat := nT (nv 34 μ)
abbrev gAc (μ : gM) : Nat := nA (nv 34 μ)
theorem Rel.L (R : Rel μ) : gi μ 34 0 = nI (gLv μ) ∧ gLv μ ≤ 3 := ⟨R.1.1.1, R.1.2.1.1⟩
theorem Rel.P (R : Rel μ) : gi μ 34 1 = nI (gP μ) ∧ gP μ ≤ 16 := ⟨R.1.1.2.1, R.1.2.1.2.1⟩
theorem Rel.N (R : Rel μ) : gi μ 34 2 = nI (gN μ) ∧ gN μ ≤ 20 := ⟨R.1.1.2.2.1, R.1.2.1.2.2.1⟩
theorem Rel.T (R : Rel μ) : gi μ 34 3 = nI (gTs μ) ∧ gTs μ ≤ 6 := ⟨R.1.1.2.2.2.1, R.1.2.1.2.2.2.1⟩
theorem Rel.A (R : Rel μ) : gi μ 34 4 = nI (gAc μ) ∧ gAc μ < 2 ^ gN μ := ⟨R.1.1.2.2.2.2, R.1.2.1.2.2.2.2⟩
theorem Rel.m0 (R : Rel μ) : gi μ 66 0 = nI (gLv μ) := R.2.2.1.1.1.trans R.L.1
theorem Rel.m1 (R : Rel μ) : gi μ 66 1 = nI (gP μ) := R.2.2.1.1.2.1.trans R.P.1
theorem Rel.m2 (R : Rel μ) : gi μ 66 2 = nI (gN μ) := R.2.2.1.1.2.2.1.trans R.N.1
theorem Rel.m3 (R : Rel μ) : gi μ 66 3 = nI (gTs μ) := R.2.2.1.1.2.2.2.trans R.T.1
theorem Rel.m (R : Rel μ) {k n : Nat} (h : (k = 0 ∧ n = gLv μ) ∨ (k = 1 ∧ n = gP μ) ∨ (k = 2 ∧ n = gN μ) ∨ (k = 3 ∧ n = gTs μ)) : gi μ 66 k = nI n := by
  rcases h with ⟨rfl, rfl⟩ | ⟨rfl, rfl⟩ | ⟨rfl, rfl⟩ | ⟨rfl, rfl⟩
  · exact R.m0
  · exact R.m1
  · exact R.m2
  · exact R.m3
theorem ixB {x : Int32} {n : Nat} (hn : n < 2 ^ 31) (h : x < 0 ∨ nI n ≤ x) : f_X7_isIndex x (nI n) μ = some false := by
  unfold f_X7_isIndex
  rcases h with h | h
  · rw [if_pos h]
  · by_cases c : x < 0
    · rw [if_pos c]
    · rw [if_neg c, if_pos h]
theorem ixG {a n : Nat} (hn : n < 2 ^ 31) (h : a < n) : f_X7_isIndex (nI a) (nI n) μ = some true := by
  unfold f_X7_isIndex
  rw [if_neg (nI_pos (by omega)), if_neg (nI_ge h hn)]
theorem needB {x : Int32} {n : Nat} (hn : n < 2 ^ 31) (h : x < 0 ∨ nI n ≤ x) : f_X7_needIndex x (nI n) μ = some none := by
  unfold f_X7_needIndex
  rw [ixB hn h]; rfl
theorem needG {a n : Nat} (hn : n < 2 ^ 31) (h : a < n) : f_X7_needIndex (nI a) (nI n) μ = some (some ()) := by
  unfold f_X7_needIndex
  rw [ixG hn h]; rfl
theorem pred_lt {n : Nat} (hn : n < 2 ^ 31) (x : Int32) : (nI n - 1 < x) ↔ (nI n ≤ x) := by
  have h1 : (nI n - 1).toInt = (n : Int) - 1 := by
    have h9 : (1 : Int32).toInt = 1 := by decide
    rw [Int32.toInt_sub, nI_toInt hn, h9]
    exact Int.bmod_eq_of_le (by omega) (by omega)
  rw [Int32.lt_iff_toInt_lt, Int32.le_iff_toInt_le, h1, nI_toInt hn]
  omega
theorem rgB {x : Int32} {n : Nat} (hn : n < 2 ^ 31) (h : x < 0 ∨ nI n ≤ x) : f_X8_inRange x (0 : Int32) (nI n - (1 : Int32)) μ = some false := by
  unfold f_X8_inRange
  by_cases c : x < 0
  · rw [if_pos c]
  · rw [if_neg c, if_pos ((pred_lt hn x).mpr (h.resolve_left c))]
theorem rgG {a n : Nat} (hn : n < 2 ^ 31) (h : a < n) : f_X8_inRange (nI a) (0 : Int32) (nI n - (1 : Int32)) μ = some true := by
  unfold f_X8_inRange
  rw [if_neg (nI_pos (by omega)), if_neg (fun c => nI_ge h hn ((pred_lt hn _).mp c))]
theorem cnt0 (k : Nat) (hk : k < 4) {n : Nat} (h : gi μ 66 k = nI n) : f_X8_count (nI k) μ = some (nI n) := by
  unfold f_X8_count
  rw [Int32.zero_add, gchk_in (by omega) (by decide), nI_clamp (by omega), h]
theorem failG : f_X8_fails (b2i true) μ = some (false, si μ 60 6 0) := rfl
theorem failB : f_X8_fails (b2i false) μ = some (true, si μ 60 6 1) := rfl
theorem isLevelB {x : Int32} (R : Rel μ) (h : x < 0 ∨ nI (gLv μ) ≤ x) : f_X8_isLevel x μ = some false := by
  unfold f_X8_isLevel
  have := R.L.2
  rw [n0, cnt0 0 (by omega) R.m0]
  show Option.bind (f_X8_inRange x (0 : Int32) _ μ) _ = _
  rw [rgB (by omega) h]; rfl
theorem isLevelG {a : Nat} (R : Rel μ) (h : a < gLv μ) : f_X8_isLevel (nI a) μ = some true := by
  unfold f_X8_isLevel
  have := R.L.2
  rw [n0, cnt0 0 (by omega) R.m0]
  show Option.bind (f_X8_inRange (nI a) (0 : Int32) _ μ) _ = _
  rw [rgG (by omega) h]; rfl
theorem isPointB {x : Int32} (R : Rel μ) (h : x < 0 ∨ nI (gP μ) ≤ x) : f_X8_isPoint x μ = some false := by
  unfold f_X8_isPoint
  have := R.P.2
  rw [n1, cnt0 1 (by omega) R.m1]
  show Option.bind (f_X8_inRange x (0 : Int32) (nI _ - (1 : Int32)) μ) _ = _
  rw [rgB (by omega) h]; rfl
theorem isPointG {a : Nat} (R : Rel μ) (h : a < gP μ) : f_X8_isPoint (nI a) μ = some true := by
  unfold f_X8_isPoint
  have := R.P.2
  rw [n1, cnt0 1 (by omega) R.m1]
  show Option.bind (f_X8_inRange (nI a) (0 : Int32) (nI _ - (1 : Int32)) μ) _ = _
  rw [rgG (by omega) h]; rfl
theorem isLineB {x : Int32} (R : Rel μ) (h : x < 0 ∨ nI (gN μ) ≤ x) : f_X8_isLine x μ = some false := by
  unfold f_X8_isLine
  have := R.N.2
  rw [n2, cnt0 2 (by omega) R.m2]
  show Option.bind (f_X8_inRange x (0 : Int32) (nI _ - (1 : Int32)) μ) _ = _
  rw [rgB (by omega) h]; rfl
theorem isLineG {a : Nat} (R : Rel μ) (h : a < gN μ) : f_X8_isLine (nI a) μ = some true := by
  unfold f_X8_isLine
  have := R.N.2
  rw [n2, cnt0 2 (by omega) R.m2]
  show Option.bind (f_X8_inRange (nI a) (0 : Int32) (nI _ - (1 : Int32)) μ) _ = _
  rw [rgG (by omega) h]; rfl
theorem isTestB {x : Int32} (R : Rel μ) (h : x < 0 ∨ nI (gTs μ) ≤ x) : f_X8_isTest x μ = some false := by
  unfold f_X8_isTest
  have := R.T.2
  rw [n3, cnt0 3 (by omega) R.m3]
  show Option.bind (f_X8_inRange x (0 : Int32) (nI _ - (1 : Int32)) μ) _ = _
  rw [rgB (by omega) h]; rfl
theorem isTestG {a : Nat} (R : Rel μ) (h : a < gTs μ) : f_X8_isTest (nI a) μ = some true := by
  unfold f_X8_isTest
  have := R.T.2
  rw [n3, cnt0 3 (by omega) R.m3]
  show Option.bind (f_X8_inRange (nI a) (0 : Int32) (nI _ - (1 : Int32)) μ) _ = _
  rw [rgG (by omega) h]; rfl
end RG
/-! the two forms of an operation's comparison -/
def simOK (μ : gM) (o : Option gM) : Prop := ∃ μ2, o = some μ2 ∧ Rel μ2
/-- an operation that may throw: fL is the law's wrapper over the class, fM the model -/
def caseI (fL : Option (Int32 × gM)) (fM : gM → Option (Int32 × gM)) : Option gM := Option.bind fL (fun q2 => Option.bind (fM q2.2) (fun q4 => Option.bind (f_X8_thrown q4.2) (fun q5 => if (q5 = q2.1) then if (q2.1 = 0) then gchk (gIn (0 : Int32) 1) (if ((gl q4.2 77 (0 : Int32).toNatClampNeg) = q4.1.toInt64) then some q4.2 else none) else some q4.2 else none)))
def caseJ (fL : Option (Int32 × gM)) (fM : gM → Option (Int64 × gM)) : Option gM := Option.bind fL (fun q2 => Option.bind (fM q2.2) (fun q4 => Option.bind (f_X8_thrown q4.2) (fun q5 => if (q5 = q2.1) then if (q2.1 = 0) then gchk (gIn (0 : Int32) 1) (if ((gl q4.2 77 (0 : Int32).toNatClampNeg) = q4.1) then some q4.2 else none) else some q4.2 else none)))
theorem caseI_bad {fL : Option (Int32 × gM)} {fM : gM → Option (Int32 × gM)} {μ μ1 μ2 : gM} {w : Int32} (h1 : fL = some (1, μ1)) (h2 : fM μ1 = some (w, μ2)) (h3 : gi μ2 60 6 = 1) (R : Rel μ2) : simOK μ (caseI fL fM) := by
  refine ⟨μ2, ?_, R⟩
  unfold caseI
  subst h1
  show Option.bind (fM μ1) _ = _
  rw [h2]
  show (if gi μ2 60 6 = 1 then (if (1 : Int32) = 0 then _ else some μ2) else none) = some μ2
  rw [if_pos h3, if_neg (by decide)]
theorem caseI_good {fL : Option (Int32 × gM)} {fM : gM → Option (Int32 × gM)} {μ μ1 μ2 : gM} {w : Int32} (h1 : fL = some (0, sl μ1 77 0 w.toInt64)) (h2 : fM (sl μ1 77 0 w.toInt64) = some (w, μ2)) (h3 : gi μ2 60 6 = 0) (h4 : Fr (sl μ1 77 0 w.toInt64) μ2) (R : Rel μ1) : simOK μ (caseI fL fM) := by
  refine ⟨μ2, ?_, (R.sl77 0 _).fr h4⟩
  unfold caseI
  subst h1
  show Option.bind (fM _) _ = _
  rw [h2]
  show (if gi μ2 60 6 = 0 then (if (0 : Int32) = 0 then gchk (gIn (0 : Int32) 1) (if gl μ2 77 (0 : Int32).toNatClampNeg = w.toInt64 then some μ2 else none) else some μ2) else none) = some μ2
  have e : gl μ2 77 (0 : Int32).toNatClampNeg = w.toInt64 := (h4.2 77 0 rfl).trans gl_sll
  rw [if_pos h3, if_pos rfl, gchk_t (by decide), if_pos e]
theorem caseJ_bad {fL : Option (Int32 × gM)} {fM : gM → Option (Int64 × gM)} {μ μ1 μ2 : gM} {w : Int64} (h1 : fL = some (1, μ1)) (h2 : fM μ1 = some (w, μ2)) (h3 : gi μ2 60 6 = 1) (R : Rel μ2) : simOK μ (caseJ fL fM) := by
  refine ⟨μ2, ?_, R⟩
  unfold caseJ
  subst h1
  show Option.bind (fM μ1) _ = _
  rw [h2]
  show (if gi μ2 60 6 = 1 then (if (1 : Int32) = 0 then _ else some μ2) else none) = some μ2
  rw [if_pos h3, if_neg (by decide)]
theorem caseJ_good {fL : Option (Int32 × gM)} {fM : gM → Option (Int64 × gM)} {μ μ1 μ2 : gM} {w : Int64} (h1 : fL = some (0, sl μ1 77 0 w)) (h2 : fM (sl μ1 77 0 w) = some (w, μ2)) (h3 : gi μ2 60 6 = 0) (h4 : Fr (sl μ1 77 0 w) μ2) (R : Rel μ1) : simOK μ (caseJ fL fM) := by
  refine ⟨μ2, ?_, (R.sl77 0 _).fr h4⟩
  unfold caseJ
  subst h1
  show Option.bind (fM _) _ = _
  rw [h2]
  show (if gi μ2 60 6 = 0 then (if (0 : Int32) = 0 then gchk (gIn (0 : Int32) 1) (if gl μ2 77 (0 : Int32).toNatClampNeg = w then some μ2 else none) else some μ2) else none) = some μ2
  have e : gl μ2 77 (0 : Int32).toNatClampNeg = w := (h4.2 77 0 rfl).trans gl_sll
  rw [if_pos h3, if_pos rfl, gchk_t (by decide), if_pos e]
/-- an operation that answers a number on both sides and changes nothing that counts -/
theorem caseE {α : Type} [DecidableEq α] {μ μ2 : gM} {fC : Option α} {fM : Option (α × gM)} {w : α} (h1 : fC = some w) (h2 : fM = some (w, μ2)) (h4 : Fr μ μ2) (R : Rel μ) : simOK μ (Option.bind fC (fun q1 => Option.bind fM (fun q2 => if (q1 = q2.1) then some q2.2 else none))) := by
  refine ⟨μ2, ?_, R.fr h4⟩
  subst h1; subst h2
  exact if_pos rfl
section G1
variable {μ : gM}
theorem si60 (x : Int32) : Fr μ (si μ 60 6 x) := (Fr.rf μ).si rfl
theorem sim_2 (R : Rel μ) : simOK μ (f_case_2 μ) := caseE (w := gi μ 0 7) rfl (by unfold f_X8_errorPosition; rw [show gi (si μ 60 6 (0 : Int32)) 60 18 = gi μ 0 7 from (gi_sij (by decide)).trans R.2.2.2.2.1.symm]) (si60 0) R
theorem sim_3 (R : Rel μ) : simOK μ (f_case_3 μ) := caseE (w := gi μ 34 0) rfl (by unfold f_X8_levelCount; rw [n0, cnt0 0 (by omega) ((R.fr (si60 (nI 0))).m0), R.L.1]; rfl) (si60 0) R
theorem sim_4 (R : Rel μ) : simOK μ (f_case_4 μ) := caseE (w := gi μ 34 1) rfl (by unfold f_X8_pointCount; rw [n1, cnt0 1 (by omega) ((R.fr (si60 (0 : Int32))).m1), R.P.1]; rfl) (si60 0) R
theorem sim_5 (R : Rel μ) : simOK μ (f_case_5 μ) := caseE (w := gi μ 34 2) rfl (by unfold f_X8_lineCount; rw [n2, cnt0 2 (by omega) ((R.fr (si60 (0 : Int32))).m2), R.N.1]; rfl) (si60 0) R
theorem sim_6 (R : Rel μ) : simOK μ (f_case_6 μ) := caseE (w := gi μ 34 3) rfl (by unfold f_X8_testCount; rw [n3, cnt0 3 (by omega) ((R.fr (si60 (0 : Int32))).m3), R.T.1]; rfl) (si60 0) R
theorem sim_7 (R : Rel μ) : simOK μ (f_case_7 μ) := by
  obtain ⟨n, o, -, -, h1, h2, -⟩ := R.2.2.2.2.2.2
  exact caseE (w := gi μ 28 0) rfl (by unfold f_X8_undoCount; rw [show gi (si μ 60 6 (0 : Int32)) 60 5 = gi μ 28 0 from (gi_sij (by decide)).trans (h2.trans h1.symm)]) (si60 0) R
theorem sim_11 (s1 : Int32) (R : Rel μ) : simOK μ (f_case_11 s1 μ) := by
  have hL := R.L
  rcases pk_ix s1 (n := gLv μ) (by omega) with h | h | ⟨a, ha, rfl⟩
  · exact caseI_bad (μ1 := μ) (μ2 := si μ 60 6 1) (w := 0) (by unfold f_L_collimation f_X7_collimation; rw [hL.1, needB (by omega) (Or.inl h)]; rfl) (by unfold f_X8_collimation; rw [isLevelB R (Or.inl h)]; rfl) rfl (R.fr (si60 1))
  · exact caseI_bad (μ1 := μ) (μ2 := si μ 60 6 1) (w := 0) (by unfold f_L_collimation f_X7_collimation; rw [hL.1, needB (by omega) (Or.inr h)]; rfl) (by unfold f_X8_collimation; rw [isLevelB R (Or.inr h)]; rfl) rfl (R.fr (si60 1))
  · refine caseI_good (μ1 := μ) (μ2 := si (sl μ 77 0 (gi μ 37 a).toInt64) 60 6 0) (w := gi μ 37 a) ?_ ?_ rfl ((Fr.rf _).si rfl) R
    · unfold f_L_collimation f_X7_collimation
      rw [hL.1, needG (by omega) ha]
      show Option.bind (gchk (gIn (nI a) 3) _) _ = _
      rw [gchk_in (by omega) (by decide), nI_clamp (by omega)]
      rfl
    · have R1 := R.sl77 0 (gi μ 37 a).toInt64
      unfold f_X8_collimation
      rw [isLevelG R1 ha]
      show gchk (gIn ((3 : Int32) + nI a) 703) _ = _
      rw [n3, nI_add, gchk_in (by omega) (by decide), nI_clamp (by omega)]
      show some (gi μ 61 (3 + a), _) = _
      rw [show gi μ 61 (3 + a) = gi μ 37 a from R.2.1.2.1 a ha]
theorem sim_13 (s1 : Int32) (R : Rel μ) : simOK μ (f_case_13 s1 μ) := by
  have hP := R.P
  rcases pk_ix s1 (n := gP μ) (by omega) with h | h | ⟨a, ha, rfl⟩
  · exact caseI_bad (μ1 := μ) (μ2 := si μ 60 6 1) (w := 0) (by unfold f_L_heldAt f_X7_heldAt; rw [hP.1, needB (by omega) (Or.inl h)]; rfl) (by unfold f_X8_heldAt; rw [isPointB R (Or.inl h)]; rfl) rfl (R.fr (si60 1))
  · exact caseI_bad (μ1 := μ) (μ2 := si μ 60 6 1) (w := 0) (by unfold f_L_heldAt f_X7_heldAt; rw [hP.1, needB (by omega) (Or.inr h)]; rfl) (by unfold f_X8_heldAt; rw [isPointB R (Or.inr h)]; rfl) rfl (R.fr (si60 1))
  · refine caseI_good (μ1 := μ) (μ2 := si (sl μ 77 0 (gi μ 39 a).toInt64) 60 6 0) (w := gi μ 39 a) ?_ ?_ rfl ((Fr.rf _).si rfl) R
    · unfold f_L_heldAt f_X7_heldAt
      rw [hP.1, needG (by omega) ha]
      show Option.bind (gchk (gIn (nI a) 16) _) _ = _
      rw [gchk_in (by omega) (by decide), nI_clamp (by omega)]
      rfl
    · have R1 := R.sl77 0 (gi μ 39 a).toInt64
      unfold f_X8_heldAt
      rw [isPointG R1 ha]
      show gchk (gIn ((6 : Int32) + nI a) 703) _ = _
      rw [n6, nI_add, gchk_in (by omega) (by decide), nI_clamp (by omega)]
      show some (gi μ 61 (6 + a), _) = _
      rw [show gi μ 61 (6 + a) = gi μ 39 a from R.2.1.2.2.1 a ha]
end G1

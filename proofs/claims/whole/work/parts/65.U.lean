/-! the changes, one by one -/
theorem caseW {α : Type} [DecidableEq α] {μ μc ν : gM} {fC : Option (α × gM)} {fM : gM → Option (α × gM)} {w : α} (h1 : fC = some (w, μc)) (h2 : fM μc = some (w, ν)) (R : Rel ν) : simOK μ (Option.bind fC (fun q1 => Option.bind (fM q1.2) (fun q2 => if (q1.1 = q2.1) then some q2.2 else none))) := by
  refine ⟨ν, ?_, R⟩
  subst h1
  show Option.bind (fM μc) _ = _
  rw [h2]
  exact if_pos rfl
theorem vs_back {v : Nat → Nat → Int32} {j i : Nat} {x : Int32} : vset (vset v j i x) j i (v j i) = v := by
  funext a b
  by_cases c : a = j ∧ b = i
  · rw [c.1, c.2, vs_s]
  · unfold vset
    rw [if_neg c, if_neg c]
theorem MO.cg {v : Nat → Nat → Int32} {μ ν : gM} (M : MO v μ) (h1 : ∀ i, i < 702 → ν.1 61 i = μ.1 61 i) (h2 : ν.1 66 = μ.1 66) : MO v ν := by
  have hb := M.1.b
  obtain ⟨q1, q2, q3, q4, q5, q6, q7⟩ := M.2.1
  refine ⟨M.1, ⟨fun i hi => (h1 _ (by omega)).trans (q1 i hi), fun i hi => (h1 _ (by omega)).trans (q2 i hi), fun i hi => (h1 _ (by omega)).trans (q3 i hi), fun i hi hj => (h1 _ (by omega)).trans (q4 i hi hj), fun i hi => (h1 _ (by omega)).trans (q5 i hi), fun i hi => (h1 _ (by omega)).trans (q6 i hi), fun k hk s hs w hw => ?_⟩, by rw [h2]; exact M.2.2⟩
  have := (M.1.line hk).cnt
  exact (h1 _ (by omega)).trans (q7 k hk s hs w hw)
theorem d61 {μ ν1 : gM} (h : ∀ i, ν1.1 61 i = if i = 702 then 0 else μ.1 61 i) (y : Nat) (x : Int32) (hy : y ≠ 702) : (∀ q, q < 702 → (si ν1 61 y x).1 61 q = if q = y then x else μ.1 61 q) ∧ (si ν1 61 y x).1 61 702 = 0 := by
  refine ⟨fun q hq => ?_, ?_⟩
  · show (if (61 : Nat) = 61 ∧ q = y then x else ν1.1 61 q) = _
    by_cases c : q = y
    · rw [if_pos ⟨rfl, c⟩, if_pos c]
    · rw [if_neg (fun w => c w.2), if_neg c, h, if_neg (by omega)]
  · show (if (61 : Nat) = 61 ∧ 702 = y then x else ν1.1 61 702) = _
    rw [if_neg (fun w => hy w.2.symm), h, if_pos rfl]
theorem si1 {μ : gM} {K i k b : Nat} {x : Int32} (h : k ≠ K) : (si μ K i x).1 k b = μ.1 k b := if_neg (fun w => h w.1)
def hcN (v : Nat → Nat → Int32) : Nat → Nat
  | 0 => 0
  | p + 1 => if v 5 p = -1 then hcN v p else hcN v p + 1
theorem c_cntH {v : Nat → Nat → Int32} {μ : gM} (C : CO v μ) : f_X3_countHeld μ = some (nI (hcN v (nP v))) := by
  have hb := C.1.b
  unfold f_X3_countHeld
  have h : gloop (fun t => b_X3_countHeld_4 t.1 t.2 μ) gFuel ((0 : Int32), (0 : Int32)) = some (nI (hcN v (nP v))) := by
    refine gloop_run (fun i => (nI (hcN v i), nI i)) (nP v) (fun i hi => ?_) ?_ gFuel (by unfold gFuel; omega)
    · show b_X3_countHeld_4 (nI (hcN v i)) (nI i) μ = some (Sum.inl (nI (if v 5 i = -1 then hcN v i else hcN v i + 1), nI (i + 1)))
      unfold b_X3_countHeld_4
      rw [C.P, if_neg (nI_ge hi (by omega))]
      simp (disch := omega) only [gck, nI_clamp, nI_1]
      rw [show gi μ 39 i = v 5 i from C.at 5 i (by decide)]
      by_cases c : v 5 i = -1
      · rw [if_pos c, if_pos c]
      · rw [if_neg c, if_neg c]
    · show b_X3_countHeld_4 _ (nI (nP v)) μ = _
      unfold b_X3_countHeld_4
      rw [C.P, if_pos (nI_le (Nat.le_refl _) (by omega))]
  rw [h]; rfl
theorem m_cntH {v : Nat → Nat → Int32} {μ : gM} (M : MO v μ) : f_X8_heldMany μ = some (nI (hcN v (nP v))) := by
  have hb := M.1.b
  unfold f_X8_heldMany
  have h : gloop (fun t => b_X8_heldMany_4 t.1 t.2 μ) gFuel ((0 : Int32), (0 : Int32)) = some (nI (hcN v (nP v))) := by
    refine gloop_run (fun i => (nI (hcN v (min i (nP v))), nI i)) 16 (fun i hi => ?_) ?_ gFuel (by unfold gFuel; omega)
    · show b_X8_heldMany_4 (nI (hcN v (min i (nP v)))) (nI i) μ = some (Sum.inl (nI (hcN v (min (i + 1) (nP v))), nI (i + 1)))
      unfold b_X8_heldMany_4
      rw [if_neg (ge16 hi)]
      simp (disch := omega) only [gck, nI_clamp, n6, nI_add, nI_1]
      by_cases c : i < nP v
      · rw [show gi μ 61 (6 + i) = v 5 i from M.2.1.2.2.1 i c, show min i (nP v) = i by omega, show min (i + 1) (nP v) = i + 1 by omega]
        have hh := held_ge M.1 c
        show _ = some (Sum.inl (nI (if v 5 i = -1 then hcN v i else hcN v i + 1), nI (i + 1)))
        by_cases d : v 5 i = -1
        · rw [if_pos d, if_pos (Int32.not_le.mp (fun w => hh.mp w d)), Int32.add_zero]
        · rw [if_neg d, if_neg (Int32.not_lt.mpr (hh.mpr d))]
      · rw [show gi μ 61 (6 + i) = -1 from M.2.1.2.2.2.1 i (by omega) (by omega), show min i (nP v) = nP v by omega, show min (i + 1) (nP v) = nP v by omega, if_pos (by decide), Int32.add_zero]
    · show b_X8_heldMany_4 (nI (hcN v (min 16 (nP v)))) (nI 16) μ = _
      unfold b_X8_heldMany_4
      rw [if_pos (show (16 : Int32) ≤ nI 16 by decide), show min 16 (nP v) = nP v by omega]
  rw [h]; rfl
theorem rg_d (lo hi x : Int32) (μ : gM) : f_X8_inRange x lo hi μ = some (decide (inR lo.toInt hi.toInt x)) := by
  unfold f_X8_inRange
  by_cases c : x < lo
  · rw [if_pos c, decide_eq_false (fun w : inR lo.toInt hi.toInt x => by rw [Int32.lt_iff_toInt_lt] at c; omega)]
  · rw [if_neg c]
    rw [Int32.lt_iff_toInt_lt] at c
    by_cases d : hi < x
    · rw [if_pos d, decide_eq_false (fun w : inR lo.toInt hi.toInt x => by rw [Int32.lt_iff_toInt_lt] at d; omega)]
    · rw [if_neg d]
      rw [Int32.lt_iff_toInt_lt] at d
      rw [decide_eq_true (show inR lo.toInt hi.toInt x by omega)]
/-- the class's memory when a change is kept and one cell of the network set -/
theorem f3_si {μ1 : gM} {K i : Nat} {x : Int32} (hK : 34 ≤ K ∧ K < 47) : (∀ k b, rI k b = true → k < 34 ∨ 46 < k → (si μ1 K i x).1 k b = μ1.1 k b) ∧ ∀ k b, rL k = true → (si μ1 K i x).2 k b = μ1.2 k b :=
  ⟨fun k b _ hk => if_neg (fun w => by omega), fun _ _ _ => rfl⟩
theorem keep_m {μ μ1 μ3 : gM} (R : Rel μ) (f1 : ∀ k i, k ≠ 20 → k < 28 ∨ 32 < k → μ1.1 k i = μ.1 k i) (f3 : ∀ k i, rI k i = true → k < 34 ∨ 46 < k → μ3.1 k i = μ1.1 k i) : MO (nv 34 μ) (si μ3 60 6 0) :=
  R.mo.cg (fun i _ => (si1 (K := 60) (by decide)).trans ((f3 61 i rfl (by decide)).trans (f1 61 i (by decide) (by decide)))) (funext fun i => (si1 (K := 60) (by decide)).trans ((f3 66 i rfl (by decide)).trans (f1 66 i (by decide) (by decide))))
theorem fin61 {ν1 : gM} {y : Nat} {x : Int32} : (∀ k i, rI k i = true → k ≠ 61 → (si ν1 61 y x).1 k i = ν1.1 k i) ∧ ∀ k i, rL k = true → (si ν1 61 y x).2 k i = ν1.2 k i :=
  ⟨fun k i _ hk => if_neg (fun w => hk w.1), fun _ _ _ => rfl⟩
theorem nv_keep {μ μ1 : gM} (f1 : ∀ k i, k ≠ 20 → k < 28 ∨ 32 < k → μ1.1 k i = μ.1 k i) : nv 34 μ1 = nv 34 μ := nv_cg (fun k i h1 h2 => f1 k i (by omega) (by omega))
section G9
variable {μ : gM}
theorem held_set (R : Rel μ) {a : Nat} (ha : a < nP (nv 34 μ)) {x : Int32} (hx : x = -1 ∨ inR 0 9999999 x) : ∃ μ3, Option.bind (f_X7_keepBefore (0 : Int32) (nI a) (gi μ 39 a) μ) (fun q6 => Option.bind (f_X3_countHeld (si q6 39 a x)) (fun q8 => some (q8, (si q6 39 a x)))) = some (nI (hcN (vset (nv 34 μ) 5 a x) (nP (nv 34 μ))), μ3) ∧ MO (nv 34 μ) (si μ3 60 6 0) ∧
    ∃ ν3, Option.bind (f_X8_changes (si μ3 60 6 0)) (fun q5 => Option.bind (f_X8_heldMany (si q5 61 (6 + a) x)) (fun q7 => some (q7, (si q5 61 (6 + a) x)))) = some (nI (hcN (vset (nv 34 μ) 5 a x) (nP (nv 34 μ))), ν3) ∧ Rel ν3 := by
  have hb := R.1.b
  obtain ⟨n, o, h8, h8o, hn, hm, ho, hR⟩ := R.2.2.2.2.2.2
  obtain ⟨μ1, e1, kp, g0, f1, f2⟩ := c_keep hn ho h8 h8o R.hm.1 (0 : Int32) (nI a) (gi μ 39 a)
  have C2 := CI_v5 R.1 (a := a) hx
  obtain ⟨f3, f4⟩ := f3_si (μ1 := μ1) (K := 39) (i := a) (x := x) (by decide)
  have hv : nv 34 (si μ1 39 a x) = vset (nv 34 μ) 5 a x := (nv_si (j := 5) (by decide)).trans (by rw [nv_keep f1])
  have F2 := FM_vs (i := a) (y := x) (Or.inr (Or.inr (Or.inl rfl))) R.2.2.1
  obtain ⟨ν1, e2, d1, d2, d3, d4⟩ := chg R h8 h8o hm hR kp g0 f1 f2 f3 f4 hv (Or.inl ⟨rfl, a, ha, rfl, by
    rw [show gi μ 39 a = nv 34 μ 5 a from rfl, vs_back]; exact eqN.rf _⟩) C2 F2
  obtain ⟨t1, t2⟩ := d61 d1 (6 + a) x (by omega)
  obtain ⟨t3, t4⟩ := fin61 (ν1 := ν1) (y := 6 + a) (x := x)
  have D3 : DM (vset (nv 34 μ) 5 a x) ((si ν1 61 (6 + a) x).1 61) := DM_of R.1 R.2.1 (Or.inr (Or.inr (Or.inl ⟨rfl, ha, rfl⟩))) t1
  have R3 := d4 _ t3 t4 D3 t2
  have M3 : MO (vset (nv 34 μ) 5 a x) (si ν1 61 (6 + a) x) := ⟨C2, D3, by
    rw [show (si ν1 61 (6 + a) x).1 66 = ν1.1 66 from funext fun i => si1 (by decide), d2]; exact F2⟩
  refine ⟨si μ1 39 a x, ?_, keep_m R f1 f3, si ν1 61 (6 + a) x, ?_, R3⟩
  · rw [e1, Option.bind_some, c_cntH (v := vset (nv 34 μ) 5 a x) ⟨C2, hv⟩]; rfl
  · rw [e2, Option.bind_some, m_cntH M3]; rfl
theorem sim_52 (s1 s2 : Int32) (R : Rel μ) : simOK μ (f_case_52 s1 s2 μ) := by
  have hb := R.1.b
  have M1 := R.mo.si6 0
  have h9 : (9999999 : Int32).toInt = 9999999 := by decide
  have h0 : (0 : Int32).toInt = 0 := by decide
  rcases ix3 s1 (n := nP (nv 34 μ)) (by omega) with h | ⟨a, ha, rfl⟩
  · refine caseW (fC := f_X7_hold s1 s2 μ) (fM := f_X8_hold s1 s2) (w := -1) (μc := μ) (ν := si μ 60 6 0) ?_ ?_ (R.fr (si60 0))
    · unfold f_X7_hold; rw [R.co.P, ixB (by omega) h]; rfl
    · unfold f_X8_hold; rw [m_pointB M1 h]; rfl
  · by_cases hx : inR 0 9999999 s2
    · obtain ⟨μ3, e1, M, ν3, e2, R3⟩ := held_set R ha (x := s2) (Or.inr hx)
      refine caseW (fC := f_X7_hold (nI a) s2 μ) (fM := f_X8_hold (nI a) s2) (w := nI (hcN (vset (nv 34 μ) 5 a s2) (nP (nv 34 μ)))) (μc := μ3) ?_ ?_ R3
      · unfold f_X7_hold; rw [R.co.P, ixG (by omega) ha, Option.bind_some]; simp only [bT, if_false]
        rw [if_neg (show ¬ s2 < 0 by rw [Int32.lt_iff_toInt_lt, h0]; omega), if_pos (show s2 ≤ 9999999 by rw [Int32.le_iff_toInt_le, h9]; omega)]
        simp (disch := omega) only [gck, nI_clamp]
        exact e1
      · unfold f_X8_hold; rw [m_pointG M ha, Option.bind_some]; simp only [bT, if_false]
        rw [rg_d, Option.bind_some, h9, h0, decide_eq_true hx]; simp only [bT, if_false]
        simp (disch := omega) only [n6, nI_add, gck, nI_clamp]
        exact e2
    · refine caseW (fC := f_X7_hold (nI a) s2 μ) (fM := f_X8_hold (nI a) s2) (w := -2) (μc := μ) (ν := si μ 60 6 0) ?_ ?_ (R.fr (si60 0))
      · unfold f_X7_hold; rw [R.co.P, ixG (by omega) ha, Option.bind_some]; simp only [bT, if_false]
        by_cases c : s2 < 0
        · rw [if_pos c]
        · rw [if_neg c, if_neg (show ¬ s2 ≤ 9999999 by
            rw [Int32.lt_iff_toInt_lt, h0] at c
            rw [Int32.le_iff_toInt_le, h9]; omega)]
      · unfold f_X8_hold; rw [m_pointG M1 ha, Option.bind_some]; simp only [bT, if_false]
        rw [rg_d, Option.bind_some, h9, h0, decide_eq_false hx]; rfl
theorem sim_53 (s1 : Int32) (R : Rel μ) : simOK μ (f_case_53 s1 μ) := by
  have hb := R.1.b
  have M1 := R.mo.si6 0
  rcases ix3 s1 (n := nP (nv 34 μ)) (by omega) with h | ⟨a, ha, rfl⟩
  · refine caseW (fC := f_X7_release s1 μ) (fM := f_X8_release s1) (w := -1) (μc := μ) (ν := si μ 60 6 0) ?_ ?_ (R.fr (si60 0))
    · unfold f_X7_release; rw [R.co.P, ixB (by omega) h]; rfl
    · unfold f_X8_release; rw [m_pointB M1 h]; rfl
  · have hg := held_ge R.1 ha
    by_cases c : nv 34 μ 5 a = -1
    · refine caseW (fC := f_X7_release (nI a) μ) (fM := f_X8_release (nI a)) (w := -1) (μc := μ) (ν := si μ 60 6 0) ?_ ?_ (R.fr (si60 0))
      · unfold f_X7_release; rw [R.co.P, ixG (by omega) ha, Option.bind_some]; simp only [bT, if_false]
        simp (disch := omega) only [gck, nI_clamp]
        rw [if_pos (show gi μ 39 a = -1 from c)]
      · unfold f_X8_release; rw [m_pointG M1 ha, Option.bind_some]; simp only [bT, if_false]
        simp (disch := omega) only [n6, nI_add, gck, nI_clamp]
        rw [if_neg (show ¬ 0 ≤ gi (si μ 60 6 0) 61 (6 + a) from fun w => by
          rw [show gi (si μ 60 6 0) 61 (6 + a) = nv 34 μ 5 a from M1.2.1.2.2.1 a ha] at w
          exact hg.mp w c)]
    · obtain ⟨μ3, e1, M, ν3, e2, R3⟩ := held_set R ha (x := -1) (Or.inl rfl)
      refine caseW (fC := f_X7_release (nI a) μ) (fM := f_X8_release (nI a)) (w := nI (hcN (vset (nv 34 μ) 5 a (-1)) (nP (nv 34 μ)))) (μc := μ3) ?_ ?_ R3
      · unfold f_X7_release; rw [R.co.P, ixG (by omega) ha, Option.bind_some]; simp only [bT, if_false]
        simp (disch := omega) only [gck, nI_clamp]
        rw [if_neg (show ¬ gi μ 39 a = -1 from c)]
        exact e1
      · unfold f_X8_release; rw [m_pointG M ha, Option.bind_some]; simp only [bT, if_false]
        simp (disch := omega) only [n6, nI_add, gck, nI_clamp]
        rw [if_pos (show 0 ≤ gi (si μ3 60 6 0) 61 (6 + a) from by
          rw [show gi (si μ3 60 6 0) 61 (6 + a) = nv 34 μ 5 a from M.2.1.2.2.1 a ha]
          exact hg.mpr c)]
        exact e2
theorem col_set (R : Rel μ) {a : Nat} (ha : a < nL (nv 34 μ)) {x : Int32} (hx : inR (-200) 200 x) : ∃ μ3, f_X7_changeCollimation (nI a) x μ = some (nv 34 μ 3 a, μ3) ∧ MO (nv 34 μ) (si μ3 60 6 0) ∧ ∃ ν3, f_X8_collimates (nI a) x (si μ3 60 6 0) = some (nv 34 μ 3 a, ν3) ∧ Rel ν3 := by
  have hb := R.1.b
  obtain ⟨n, o, h8, h8o, hn, hm, ho, hR⟩ := R.2.2.2.2.2.2
  obtain ⟨μ1, e1, kp, g0, f1, f2⟩ := c_keep hn ho h8 h8o R.hm.1 (4 : Int32) (nI a) (gi μ 37 a)
  have C2 := CI_v3 R.1 (a := a) hx
  obtain ⟨f3, f4⟩ := f3_si (μ1 := μ1) (K := 37) (i := a) (x := x) (by decide)
  have hv : nv 34 (si μ1 37 a x) = vset (nv 34 μ) 3 a x := (nv_si (j := 3) (by decide)).trans (by rw [nv_keep f1])
  have F2 := FM_vs (i := a) (y := x) (Or.inr (Or.inl rfl)) R.2.2.1
  obtain ⟨ν1, e2, d1, d2, d3, d4⟩ := chg R h8 h8o hm hR kp g0 f1 f2 f3 f4 hv (Or.inr (Or.inr (Or.inr (Or.inr (Or.inl ⟨rfl, a, ha, rfl, by
    rw [show gi μ 37 a = nv 34 μ 3 a from rfl, vs_back]; exact eqN.rf _⟩))))) C2 F2
  obtain ⟨t1, t2⟩ := d61 d1 (3 + a) x (by omega)
  obtain ⟨t3, t4⟩ := fin61 (ν1 := ν1) (y := 3 + a) (x := x)
  have D3 : DM (vset (nv 34 μ) 3 a x) ((si ν1 61 (3 + a) x).1 61) := DM_of R.1 R.2.1 (Or.inr (Or.inl ⟨rfl, ha, rfl⟩)) t1
  have R3 := d4 _ t3 t4 D3 t2
  refine ⟨si μ1 37 a x, ?_, keep_m R f1 f3, si ν1 61 (3 + a) x, ?_, R3⟩
  · unfold f_X7_changeCollimation
    simp (disch := omega) only [gck, nI_clamp]
    rw [e1]; rfl
  · unfold f_X8_collimates
    rw [e2, Option.bind_some]
    simp (disch := omega) only [n3, nI_add, gck, nI_clamp]
    rw [show gi ν1 61 (3 + a) = nv 34 μ 3 a from (d1 _).trans ((if_neg (by omega)).trans (R.2.1.2.1 a ha))]
theorem sim_57 (s1 s2 : Int32) (R : Rel μ) : simOK μ (f_case_57 s1 s2 μ) := by
  have hb := R.1.b
  have M1 := R.mo.si6 0
  have h2 : (200 : Int32).toInt = 200 := by decide
  have h3 : (-200 : Int32).toInt = -200 := by decide
  rcases ix3 s1 (n := nL (nv 34 μ)) (by omega) with h | ⟨a, ha, rfl⟩
  · refine caseW (fC := f_X7_setCollimation s1 s2 μ) (fM := f_X8_setCollimation s1 s2) (w := -2147483648) (μc := μ) (ν := si μ 60 6 0) ?_ ?_ (R.fr (si60 0))
    · unfold f_X7_setCollimation; rw [show gi μ 34 0 = nI (nL (nv 34 μ)) from R.1.1.1, ixB (by omega) h]; rfl
    · unfold f_X8_setCollimation; rw [isLevelB (R.fr (si60 0)) h]; rfl
  · by_cases hx : inR (-200) 200 s2
    · obtain ⟨μ3, e1, M, ν3, e2, R3⟩ := col_set R ha (x := s2) hx
      refine caseW (fC := f_X7_setCollimation (nI a) s2 μ) (fM := f_X8_setCollimation (nI a) s2) (w := nv 34 μ 3 a) (μc := μ3) ?_ ?_ R3
      · unfold f_X7_setCollimation; rw [show gi μ 34 0 = nI (nL (nv 34 μ)) from R.1.1.1, ixG (by omega) ha, Option.bind_some]; simp only [bT, if_false]
        rw [if_neg (show ¬ s2 < -200 by rw [Int32.lt_iff_toInt_lt, h3]; omega), if_pos (show s2 ≤ 200 by rw [Int32.le_iff_toInt_le, h2]; omega), e1]; rfl
      · unfold f_X8_setCollimation f_X8_isLevel
        rw [show f_X8_count (0 : Int32) (si μ3 60 6 0) = some (nI (nL (nv 34 μ))) from cnt0 0 (by decide) M.cL, Option.bind_some, rgG (by omega) ha, Option.bind_some, Option.bind_some]; simp only [bT, if_false]
        rw [rg_d, Option.bind_some, h2, h3, decide_eq_true hx]; simp only [bT, if_false]
        rw [e2]; rfl
    · refine caseW (fC := f_X7_setCollimation (nI a) s2 μ) (fM := f_X8_setCollimation (nI a) s2) (w := -2147483648) (μc := μ) (ν := si μ 60 6 0) ?_ ?_ (R.fr (si60 0))
      · unfold f_X7_setCollimation; rw [show gi μ 34 0 = nI (nL (nv 34 μ)) from R.1.1.1, ixG (by omega) ha, Option.bind_some]; simp only [bT, if_false]
        by_cases c : s2 < -200
        · rw [if_pos c]
        · rw [if_neg c, if_neg (show ¬ s2 ≤ 200 by
            rw [Int32.lt_iff_toInt_lt, h3] at c
            rw [Int32.le_iff_toInt_le, h2]; omega)]
      · unfold f_X8_setCollimation; rw [isLevelG (R.fr (si60 0)) ha, Option.bind_some]; simp only [bT, if_false]
        rw [rg_d, Option.bind_some, h2, h3, decide_eq_false hx]; rfl
theorem res_r {v : Nat → Nat → Int32} {t : Nat} (h : ¬ res v t = -2147483648) : inR (-200) 200 (res v t) := by
  have h2 : (200 : Int32).toInt = 200 := by decide
  have h3 : (-200 : Int32).toInt = -200 := by decide
  unfold res at h ⊢
  by_cases c1 : dvr v t = 0
  · rw [if_pos c1] at h; exact absurd rfl h
  · rw [if_neg c1] at h ⊢
    by_cases c2 : (100 : Int32) * apt v t / dvr v t < -200
    · rw [if_pos c2] at h; exact absurd rfl h
    · rw [if_neg c2] at h ⊢
      by_cases c3 : (100 : Int32) * apt v t / dvr v t ≤ 200
      · rw [if_pos c3]
        rw [Int32.lt_iff_toInt_lt, h3] at c2
        rw [Int32.le_iff_toInt_le, h2] at c3
        exact ⟨by omega, c3⟩
      · rw [if_neg c3] at h; exact absurd rfl h
theorem sim_58 (s1 : Int32) (R : Rel μ) : simOK μ (f_case_58 s1 μ) := by
  have hb := R.1.b
  have M1 := R.mo.si6 0
  have e3 : gi μ 34 3 = nI (nT (nv 34 μ)) := R.1.1.2.2.2.1
  rcases ix3 s1 (n := nT (nv 34 μ)) (by omega) with h | ⟨a, ha, rfl⟩
  · refine caseW (fC := f_X7_applyTest s1 μ) (fM := f_X8_applyTest s1) (w := -2147483648) (μc := μ) (ν := si μ 60 6 0) ?_ ?_ (R.fr (si60 0))
    · unfold f_X7_applyTest; rw [e3, ixB (by omega) h]; rfl
    · unfold f_X8_applyTest; rw [m_testB M1 h]; rfl
  · have ht := R.1.2.2.2.2.2.2 a ha
    by_cases hx : res (nv 34 μ) a = -2147483648
    · refine caseW (fC := f_X7_applyTest (nI a) μ) (fM := f_X8_applyTest (nI a)) (w := -2147483648) (μc := μ) (ν := si μ 60 6 0) ?_ ?_ (R.fr (si60 0))
      · unfold f_X7_applyTest; rw [e3, ixG (by omega) ha, Option.bind_some]; simp only [bT, if_false]
        rw [c_res R.co (by omega), Option.bind_some, if_pos hx]
      · unfold f_X8_applyTest; rw [m_testG M1 ha, Option.bind_some]; simp only [bT, if_false]
        rw [m_result M1 ha, Option.bind_some, if_pos hx]
    · obtain ⟨μ3, e1, M, ν3, e2, R3⟩ := col_set R ht.2.1 (x := res (nv 34 μ) a) (res_r hx)
      refine caseW (fC := f_X7_applyTest (nI a) μ) (fM := f_X8_applyTest (nI a)) (w := nv 34 μ 3 (tl (nv 34 μ) a)) (μc := μ3) ?_ ?_ R3
      · unfold f_X7_applyTest; rw [e3, ixG (by omega) ha, Option.bind_some]; simp only [bT, if_false]
        rw [c_res R.co (by omega), Option.bind_some, if_neg hx]
        simp (disch := omega) only [gck, nI_clamp]
        rw [show gi μ 45 a = nI (tl (nv 34 μ) a) from ht.1, e1]; rfl
      · unfold f_X8_applyTest; rw [m_testG M ha, Option.bind_some]; simp only [bT, if_false]
        rw [m_result M ha, Option.bind_some, if_neg hx]
        simp (disch := omega) only [n64, n9, pk_mul, nI_add, gck, nI_clamp]
        rw [Option.bind_some, show gi (si μ3 60 6 0) 66 (64 + 9 * a) = nI (tl (nv 34 μ) a) from (M.2.2.2.2.1 a ha).1.trans ht.1, e2]; rfl
end G9

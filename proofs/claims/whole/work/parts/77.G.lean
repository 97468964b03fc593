/-! tree lines, loops counted, lines switched -/
theorem setN {x : Int32} {n : Nat} (hn : n ≤ 31) (h : ∀ i, i < 32 → n ≤ i → bt x i = false) : ∃ A, x = nI A ∧ A < 2 ^ n ∧ ∀ i, i < 32 → A.testBit i = bt x i := by
  obtain ⟨a, ha⟩ : ∃ a, a = x.toBitVec.toNat := ⟨_, rfl⟩
  have ha32 : a < 2 ^ 32 := by rw [ha]; exact x.toBitVec.isLt
  have hx : x = nI a := by
    refine Int32.toBitVec_inj.mp ?_
    show _ = BitVec.ofNat 32 a
    rw [ha]; simp
  have tb : ∀ i, i < 32 → bt x i = a.testBit i := fun i hi => by rw [hx]; exact b_nI ha32 hi
  refine ⟨a, hx, Nat.lt_pow_two_of_testBit a (fun i hi => ?_), fun i hi => (tb i hi).symm⟩
  by_cases c : i < 32
  · rw [← tb i c]; exact h i c hi
  · exact Nat.testBit_lt_two_pow (Nat.lt_of_lt_of_le ha32 (Nat.pow_le_pow_right (by decide) (by omega)))
theorem tb_out {A n i : Nat} (h : A < 2 ^ n) (hi : n ≤ i) : A.testBit i = false := Nat.testBit_lt_two_pow (Nat.lt_of_lt_of_le h (Nat.pow_le_pow_right (by decide) hi))
theorem b_own {A : Nat} {b : Int32} (hA : A < 2 ^ 31) {i : Nat} (hi : i < 32) : bt (nI A &&& (b ^^^ (-1 : Int32))) i = (A.testBit i && !bt b i) := by
  rw [b_and, b_xor, b_m1 i hi, b_nI (by omega) hi, Bool.xor_true]
theorem lpB_b {A : Nat} {b : Int32} (hA : A < 2 ^ 31) {i : Nat} (hi : i < 32) : bt (nI A &&& (b ^^^ (-1 : Int32))) i = true ↔ lpB A b i := by
  rw [b_own hA hi, Bool.and_eq_true, Bool.not_eq_true']
theorem pcn_lc {A : Nat} {b : Int32} (hA : A < 2 ^ 31) : ∀ k, k ≤ 32 → pcn (nI A &&& (b ^^^ (-1 : Int32))) k = lc A b k
  | 0, _ => rfl
  | k + 1, hk => by
    show pcn _ k + (if bt (nI A &&& (b ^^^ (-1 : Int32))) k = true then 1 else 0) = if lpB A b k then lc A b k + 1 else lc A b k
    rw [pcn_lc hA k (by omega)]
    by_cases c : lpB A b k
    · rw [if_pos c, if_pos ((lpB_b hA (by omega)).mpr c)]
    · rw [if_neg c, if_neg (fun w => c ((lpB_b hA (by omega)).mp w)), Nat.add_zero]
theorem lc_out {A n : Nat} {b : Int32} (h : A < 2 ^ n) : ∀ i, lc A b (n + i) = lc A b n
  | 0 => rfl
  | i + 1 => by
    show (if lpB A b (n + i) then lc A b (n + i) + 1 else lc A b (n + i)) = _
    rw [if_neg (fun w => by have := w.1; rw [tb_out h (by omega)] at this; cases this)]
    exact lc_out h i
theorem own_cnt {A n : Nat} {b : Int32} (hn : n ≤ 20) (h : A < 2 ^ n) (μ : gM) : f_J6_bitCount_0f7a4 (nI A &&& (b ^^^ (-1 : Int32))) μ = some (nI (lc A b n)) := by
  have h31 : A < 2 ^ 31 := Nat.lt_of_lt_of_le h (Nat.pow_le_pow_right (by decide) (by omega))
  rw [bitc μ (fun i hi h20 => by rw [b_own h31 hi, tb_out h (by omega), Bool.false_and]), pcn_lc h31 20 (by decide)]
  have := lc_out (b := b) h (20 - n)
  rw [show n + (20 - n) = 20 by omega] at this
  rw [this]
section GT
variable {v : Nat → Nat → Int32} {μ : gM}
theorem c_cntL (C : CO v μ) : ∃ ν, f_X7_countLoops μ = some (nI (nlp v (nA v)), ν) ∧ Fr μ ν := by
  have hb := C.1.b
  obtain ⟨ν, e, F, -, T⟩ := c_grow C C.1.A31
  refine ⟨ν, ?_, F⟩
  unfold f_X7_countLoops
  rw [C.A, e, Option.bind_some, (C.fr F).A, show gi ν 7 5 = tbr v (nA v) from T.2.2, own_cnt (by omega) C.1.b.2.2.2.2]
  rfl
theorem sim_31 (R : Rel μ) : simOK μ (f_case_31 μ) := by
  refine workE (fC := f_X7_treeLines μ) (fM := f_X8_treeLines) R ?_
  obtain ⟨ν, e, F, -, T⟩ := c_grow R.co R.1.A31
  refine ⟨tbr (nv 34 μ) (nA (nv 34 μ)), ν, ?_, F, fun ρ M => ?_⟩
  · unfold f_X7_treeLines
    rw [R.co.A, e, Option.bind_some, show gi ν 7 5 = _ from T.2.2]; rfl
  · obtain ⟨ν2, e2, F2, L⟩ := m_layL (M.si6 0)
    refine ⟨ν2, ?_, (si60 0).tr F2.1⟩
    unfold f_X8_treeLines
    rw [e2, Option.bind_some, show gi ν2 60 28 = _ from L.1.2.2]; rfl
theorem sim_32 (R : Rel μ) : simOK μ (f_case_32 μ) := by
  refine workE (fC := f_X7_loopCount μ) (fM := f_X8_loopCount) R ?_
  obtain ⟨ν, e, F⟩ := c_cntL R.co
  refine ⟨nI (nlp (nv 34 μ) (nA (nv 34 μ))), ν, ?_, F, fun ρ M => ?_⟩
  · unfold f_X7_loopCount
    rw [e]; rfl
  · obtain ⟨ν2, e2, F2, L⟩ := m_layL (M.si6 0)
    refine ⟨ν2, ?_, (si60 0).tr F2.1⟩
    unfold f_X8_loopCount f_X8_loopsNow
    rw [e2, Option.bind_some, Option.bind_some, L.2.1]
theorem DM_act {d d2 : Nat → Int32} {a A : Nat} (C : CI v) (D : DM v d) (hA : A < 2 ^ nN v) (ha : a < nN v) {x : Int32} (e : ∀ q, q < 702 → d2 q = if q = 22 + a then x else d q) (h1 : x = if A.testBit a = true then 1 else 0) (h2 : ∀ k, k < nN v → k ≠ a → A.testBit k = (nA v).testBit k) : DM (vset v 0 4 (nI A)) d2 := by
  have hb := C.b
  have h31 : A < 2 ^ 31 := Nat.lt_trans hA (Nat.pow_lt_pow_right (by decide) (by omega))
  have L : nL (vset v 0 4 (nI A)) = nL v := congrArg Int32.toNatClampNeg (vs_i (by decide))
  have P : nP (vset v 0 4 (nI A)) = nP v := congrArg Int32.toNatClampNeg (vs_i (by decide))
  have N : nN (vset v 0 4 (nI A)) = nN v := congrArg Int32.toNatClampNeg (vs_i (by decide))
  have AA : nA (vset v 0 4 (nI A)) = A := by
    show (vset v 0 4 (nI A) 0 4).toNatClampNeg = A
    rw [vs_s, nI_clamp h31]
  have E : ∀ k, ct (vset v 0 4 (nI A)) k = ct v k := fun k => congrArg Int32.toNatClampNeg (vs_j (by decide))
  obtain ⟨q1, q2, q3, q4, q5, q6, q7⟩ := D
  unfold DM
  rw [L, P, N, AA]
  refine ⟨fun p hp => ?_, fun p hp => ?_, fun p hp => ?_, fun p hp hp2 => ?_, fun p hp => ?_, fun p hp => ?_, fun k hk s hs w hw => ?_⟩
  · rw [e p (by omega), if_neg (by omega), vs_j (by decide)]; exact q1 p hp
  · rw [e _ (by omega), if_neg (by omega), vs_j (by decide)]; exact q2 p hp
  · rw [e _ (by omega), if_neg (by omega), vs_j (by decide)]; exact q3 p hp
  · rw [e _ (by omega), if_neg (by omega)]; exact q4 p hp hp2
  · rw [e _ (by omega)]
    by_cases c : p = a
    · rw [if_pos (by omega), c]; exact h1
    · rw [if_neg (by omega), h2 p hp c]; exact q5 p hp
  · rw [e _ (by omega), if_neg (by omega), vs_j (by decide)]; exact q6 p hp
  · rw [E] at hs
    have hc := (C.line hk).cnt
    rw [e _ (by omega), if_neg (by omega), vs_j (by decide)]; exact q7 k hk s hs w hw
theorem nA_vs {A : Nat} (C : CI v) (hA : A < 2 ^ nN v) : nA (vset v 0 4 (nI A)) = A := by
  have hb := C.b
  have h31 : A < 2 ^ 31 := Nat.lt_trans hA (Nat.pow_lt_pow_right (by decide) (by omega))
  show (vset v 0 4 (nI A) 0 4).toNatClampNeg = A
  rw [vs_s, nI_clamp h31]
/-- the set with a line put in or taken out -/
def sact (A a : Nat) (y : Int32) : Int32 := if y = 0 then nI A &&& (((1 : Int32) <<< (nI a &&& 31)) ^^^ (-1 : Int32)) else nI A ||| ((1 : Int32) <<< (nI a &&& 31))
theorem sact_b {A a : Nat} (hA : A < 2 ^ 31) (ha : a < 32) (y : Int32) {i : Nat} (hi : i < 32) : bt (sact A a y) i = if i = a then !decide (y = 0) else A.testBit i := by
  unfold sact
  by_cases c : y = 0
  · rw [if_pos c, decide_eq_true c, b_own hA hi, b_one a ha i hi]
    by_cases d : i = a
    · rw [if_pos d, decide_eq_true d]; simp
    · rw [if_neg d, decide_eq_false d]; simp
  · rw [if_neg c, decide_eq_false c, b_or, b_nI (by omega) hi, b_one a ha i hi]
    by_cases d : i = a
    · rw [if_pos d, decide_eq_true d]; simp
    · rw [if_neg d, decide_eq_false d]; simp
theorem act_set (R : Rel μ) {a : Nat} (ha : a < nN (nv 34 μ)) {y : Int32} (hy : y = 0 ∨ y = 1) : ∃ w μ3 ν3, f_X7_setActive (nI a) y μ = some (w, μ3) ∧ f_X8_setActive (nI a) y μ3 = some (w, ν3) ∧ Rel ν3 := by
  have hb := R.1.b
  have C := R.co
  obtain ⟨n, o, h8, h8o, hn, hm, ho, hR⟩ := R.2.2.2.2.2.2
  obtain ⟨μ1, e1, kp, g0, f1, f2⟩ := c_keep hn ho h8 h8o R.hm.1 (3 : Int32) (nI a) (nI (nA (nv 34 μ)))
  have sb := fun i (hi : i < 32) => sact_b R.1.A31 (show a < 32 by omega) y hi
  obtain ⟨A, hx, hA, hAb⟩ := setN (x := sact (nA (nv 34 μ)) a y) (n := nN (nv 34 μ)) (by omega) (fun i hi hni => by
    rw [sb i hi, if_neg (by omega)]; exact tb_out R.1.b.2.2.2.2 hni)
  have C2 : CI (vset (nv 34 μ) 0 4 (nI A)) := CI_v0 R.1 hA
  have eA : nA (vset (nv 34 μ) 0 4 (nI A)) = A := nA_vs R.1 hA
  have hv : nv 34 (si μ1 34 4 (nI A)) = vset (nv 34 μ) 0 4 (nI A) := (nv_si (j := 0) (by decide)).trans (by rw [nv_keep f1])
  obtain ⟨μ3, e3, F3⟩ := c_cntL (v := vset (nv 34 μ) 0 4 (nI A)) (μ := si μ1 34 4 (nI A)) ⟨C2, hv⟩
  have hv3 : nv 34 μ3 = vset (nv 34 μ) 0 4 (nI A) := (Fr_nv F3).trans hv
  have f3 : ∀ k i, rI k i = true → k < 34 ∨ 46 < k → μ3.1 k i = μ1.1 k i := fun k i hr hk => (F3.1 k i hr).trans (si1 (by omega))
  have f4 : ∀ k i, rL k = true → μ3.2 k i = μ1.2 k i := fun k i hr => F3.2 k i hr
  have F2 := FM_vs (i := 4) (y := nI A) (j := 0) (by omega) R.2.2.1
  have hN2 : nN (vset (nv 34 μ) 0 4 (nI A)) = nN (nv 34 μ) := congrArg Int32.toNatClampNeg (vs_i (by decide))
  obtain ⟨ν1, e2, d1, d2, d3, d4⟩ := chg R h8 h8o hm hR kp g0 f1 f2 f3 f4 hv3 (Or.inr (Or.inr (Or.inr (Or.inl ⟨rfl, nA (nv 34 μ), rfl, by rw [hN2]; exact R.1.b.2.2.2.2, by
    rw [← R.1.ac.1, vs_back]; exact eqN.rf _⟩)))) C2 F2
  obtain ⟨t1, t2⟩ := d61 d1 (22 + a) (if y = 0 then 0 else 1) (by omega)
  obtain ⟨t3, t4⟩ := fin61 (ν1 := ν1) (y := 22 + a) (x := if y = 0 then 0 else 1)
  have D3 : DM (vset (nv 34 μ) 0 4 (nI A)) ((si ν1 61 (22 + a) (if y = 0 then 0 else 1)).1 61) := DM_act R.1 R.2.1 hA ha t1 (by
    rw [hAb a (by omega), sb a (by omega), if_pos rfl]
    by_cases c : y = 0
    · rw [if_pos c, decide_eq_true c]; rfl
    · rw [if_neg c, decide_eq_false c]; rfl) (fun k hk hka => by rw [hAb k (by omega), sb k (by omega), if_neg hka])
  have M3 : MO (vset (nv 34 μ) 0 4 (nI A)) (si ν1 61 (22 + a) (if y = 0 then 0 else 1)) := ⟨C2, D3, by
    rw [show (si ν1 61 (22 + a) (if y = 0 then 0 else 1)).1 66 = ν1.1 66 from funext fun i => si1 (by decide), d2]; exact F2⟩
  obtain ⟨ν3, e4, F4, L4⟩ := m_layL M3
  have R3 : Rel ν3 := d4 ν3 (fun k i hr hk => (F4.1.1 k i hr).trans (t3 k i hr hk)) (fun k i hr => (F4.1.2 k i hr).trans (t4 k i hr)) (by rw [F4.1.f 61 (fun _ => rfl)]; exact D3) ((F4.1.1 61 702 rfl).trans t2)
  have M := keep_m R f1 f3
  have e34 : gi μ1 34 4 = nI (nA (nv 34 μ)) := (f1 34 4 (by decide) (by decide)).trans C.A
  refine ⟨nI (nlp (vset (nv 34 μ) 0 4 (nI A)) (nA (vset (nv 34 μ) 0 4 (nI A)))), μ3, ν3, ?_, ?_, R3⟩
  · unfold f_X7_setActive
    rw [C.N, ixG (by omega) ha, Option.bind_some]; simp only [bT, if_false]
    rw [C.A, e1, Option.bind_some, e34]
    rcases hy with h | h
    · have hx2 : nI (nA (nv 34 μ)) &&& (((1 : Int32) <<< (nI a &&& 31)) ^^^ (-1 : Int32)) = nI A := by rw [← hx, h]; rfl
      rw [if_pos h, hx2, e3]; rfl
    · have hx2 : nI (nA (nv 34 μ)) ||| ((1 : Int32) <<< (nI a &&& 31)) = nI A := by rw [← hx, h]; rfl
      rw [if_neg (by rw [h]; decide), hx2, e3]; rfl
  · unfold f_X8_setActive f_X8_loopsNow
    rw [m_lineG M ha, Option.bind_some]; simp only [bT, if_false]
    rw [e2, Option.bind_some]
    simp (disch := omega) only [n22, nI_add, gck, nI_clamp]
    rcases hy with h | h
    · rw [if_pos h] at e4 ⊢
      rw [e4, Option.bind_some, Option.bind_some, L4.2.1]
    · rw [if_neg (by rw [h]; decide)] at e4 ⊢
      rw [e4, Option.bind_some, Option.bind_some, L4.2.1]
theorem sim_56 (s1 s2 : Int32) (R : Rel μ) : simOK μ (f_case_56 s1 s2 μ) := by
  have hb := R.1.b
  have M1 := R.mo.si6 0
  have red : ∀ y : Int32, (y = if s2 = 0 then 0 else 1) → f_case_56 s1 s2 μ = Option.bind (f_X7_setActive s1 y μ) (fun q1 => Option.bind (f_X8_setActive s1 y q1.2) (fun q2 => if (q1.1 = q2.1) then some q2.2 else none)) := fun y hy => by
    unfold f_case_56
    by_cases c : s2 = 0
    · rw [if_pos c] at hy
      simp only [if_pos c, hy]
    · rw [if_neg c] at hy
      simp only [if_neg c, hy]
  obtain ⟨y, hy⟩ : ∃ y : Int32, y = if s2 = 0 then 0 else 1 := ⟨_, rfl⟩
  rw [red y hy]
  have hy2 : y = 0 ∨ y = 1 := by
    by_cases c : s2 = 0
    · rw [if_pos c] at hy; exact Or.inl hy
    · rw [if_neg c] at hy; exact Or.inr hy
  rcases ix3 s1 (n := nN (nv 34 μ)) (by omega) with h | ⟨a, ha, rfl⟩
  · refine caseW (w := -1) (μc := μ) (ν := si μ 60 6 0) ?_ ?_ (R.fr (si60 0))
    · unfold f_X7_setActive; rw [R.co.N, ixB (by omega) h]; rfl
    · unfold f_X8_setActive; rw [m_lineB M1 h]; rfl
  · obtain ⟨w, μ3, ν3, e1, e2, R3⟩ := act_set R ha hy2
    exact caseW (fM := f_X8_setActive (nI a) y) e1 e2 R3
end GT

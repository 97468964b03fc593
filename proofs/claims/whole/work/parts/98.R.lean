/-! names and numbers read -/
section PM
variable {μ ρ : gM} {n p : Nat} {v : Nat → Nat → Int32}
theorem lt_good (ρ : gM) : ∀ j i a : Nat, i + j = 6 → a * 32 ^ j < 2 ^ 30 → ∀ f, j < f → gloop (fun t => b_X8_lettersHere_56 t.1 t.2 ρ) f (nI a, nI i) = some (nI (a * 32 ^ j))
  | 0, i, a, h, _, f, hf => by
    obtain ⟨f, rfl⟩ : ∃ g, f = g + 1 := ⟨f - 1, by omega⟩
    have e : i = 6 := by omega
    subst e
    show (b_X8_lettersHere_56 (nI a) (nI 6) ρ).bind _ = _
    unfold b_X8_lettersHere_56
    rw [if_pos (show (6 : Int32) ≤ nI 6 by decide), Nat.pow_zero, Nat.mul_one]; rfl
  | j + 1, i, a, h, hb, f, hf => by
    obtain ⟨f, rfl⟩ : ∃ g, f = g + 1 := ⟨f - 1, by omega⟩
    have ea : a * 32 ^ (j + 1) = a * 32 * 32 ^ j := by rw [Nat.pow_succ', ← Nat.mul_assoc]
    rw [ea] at hb ⊢
    have ih := lt_good ρ j (i + 1) (a * 32) (by omega) hb f (by omega)
    have le : a * 32 ≤ a * 32 * 32 ^ j := Nat.le_mul_of_pos_right _ (Nat.pow_pos (by decide))
    show (b_X8_lettersHere_56 (nI a) (nI i) ρ).bind _ = _
    unfold b_X8_lettersHere_56
    rw [if_neg (show ¬ (6 : Int32) ≤ nI i from nI_ge (b := 6) (by omega) (by decide)), pk_shlN _ 5 (by decide +kernel) (by omega), nI_1]
    exact ih
theorem lt_any (ρ : gM) (x : Int32) {L : Nat} (hL : L ≤ 1200) : ∃ y, gloop (fun t => b_X8_lettersHere_56 t.1 t.2 ρ) gFuel (x, nI L) = some y := by
  obtain ⟨y, h, -⟩ := gloop_rel (body := fun t => b_X8_lettersHere_56 t.1 t.2 ρ) (fun i t => ∃ x, t = (x, nI (L + i))) (fun _ => True) (6 - L) (fun i t hi hR => by
    obtain ⟨x, rfl⟩ := hR
    show (∃ t, b_X8_lettersHere_56 x (nI (L + i)) ρ = _ ∧ _) ∨ ∃ r, b_X8_lettersHere_56 x (nI (L + i)) ρ = _ ∧ _
    unfold b_X8_lettersHere_56
    by_cases c : 6 ≤ L + i
    · right
      exact ⟨_, if_pos (show (6 : Int32) ≤ nI (L + i) from nI_le (a := 6) c (by omega)), trivial⟩
    · left
      rw [if_neg (show ¬ (6 : Int32) ≤ nI (L + i) from nI_ge (b := 6) (by omega) (by decide)), nI_1]
      exact ⟨_, rfl, ⟨_, rfl⟩, by omega⟩) (by unfold gFuel; omega) (s0 := (x, nI L)) ⟨x, rfl⟩
  exact ⟨y, h⟩
theorem lh_bad (R : RD n p μ ρ) : ∃ x, j_X8_lettersHere_34 ρ = some (x, mE (-11) ρ) := by
  unfold j_X8_lettersHere_34 j_X8_lettersHere_35
  rw [m_ck0 R.2.1, Option.bind_some]
  obtain ⟨⟨k, s, e, a, b⟩, x, y⟩ := R
  have T := Tok_le b.2.1
  have hn := a.1
  have e12 : gi (mE (-11) ρ) 60 12 = nI e := ((gi_sij (by decide)).trans (gi_sij (by decide))).trans b.2.2.2.1
  have e13 : gi (mE (-11) ρ) 60 13 = nI s := ((gi_sij (by decide)).trans (gi_sij (by decide))).trans b.2.2.1
  rw [e12, e13, pk_sub T.2.1]
  obtain ⟨y, hy⟩ := lt_any (mE (-11) ρ) (gl (mE (-11) ρ) 60 15).toInt32 (L := e - s) (by omega)
  rw [hy]
  exact ⟨_, rfl⟩
theorem cm_name (R : RD n p μ ρ) : ∃ b, f_X4_isName μ = some b ∧ (b = true → f_X8_lettersHere ρ = some (gi μ 1 6, ρ)) ∧ (b = false → ∃ x, f_X8_lettersHere ρ = some (x, mE (-11) ρ)) := by
  obtain ⟨b5, i5, -, w5⟩ := cm_wd R (m := 5) (j := 5) (by decide) wk5
  obtain ⟨b6, i6, -, w6⟩ := cm_wd R (m := 4) (j := 6) (by decide) wk6
  obtain ⟨b7, i7, -, w7⟩ := cm_wd R (m := 5) (j := 7) (by decide) wk7
  obtain ⟨b8, i8, -, w8⟩ := cm_wd R (m := 4) (j := 8) (by decide) wk8
  obtain ⟨b9, i9, -, w9⟩ := cm_wd R (m := 4) (j := 9) (by decide) wk9
  obtain ⟨b10, i10, -, w10⟩ := cm_wd R (m := 3) (j := 10) (by decide) wk10
  obtain ⟨b12, i12, -, w12⟩ := cm_wd R (m := 5) (j := 12) (by decide) wk12
  have j5 : f_X4_isWord_5 μ = some b5 := i5
  have j6 : f_X4_isWord_6 μ = some b6 := i6
  have j7 : f_X4_isWord_7 μ = some b7 := i7
  have j8 : f_X4_isWord_8 μ = some b8 := i8
  have j9 : f_X4_isWord_9 μ = some b9 := i9
  have j10 : f_X4_isWord_10 μ = some b10 := i10
  have j12 : f_X4_isWord_12 μ = some b12 := i12
  have kd := R.kd
  have bad := lh_bad R
  obtain ⟨⟨k, s, e, a, b⟩, x, y⟩ := R
  have T := Tok_le a.2.2.1
  have hn := a.1
  unfold f_X4_isName f_X8_lettersHere
  rw [kd, b.2.2.1, b.2.2.2.1, a.2.2.2.1, a.2.2.2.2.1, pk_sub T.2.1]
  by_cases c1 : gi μ 1 5 = 1
  · rw [if_pos c1, if_pos c1]
    have k1 : k = 1 := (nI_eq (b := 1) (by omega) (by decide)).mp (a.2.2.2.2.2.1.symm.trans c1)
    subst k1
    by_cases c2 : 6 < e - s
    · rw [if_pos (show (6 : Int32) < nI (e - s) from nI_lt (a := 6) c2 (by omega)), if_pos (show (6 : Int32) < nI (e - s) from nI_lt (a := 6) c2 (by omega))]
      exact ⟨false, rfl, (fun h => by cases h), fun _ => bad⟩
    · rw [if_neg (show ¬ (6 : Int32) < nI (e - s) from nI_nlt (a := 6) (by omega) (by decide)), if_neg (show ¬ (6 : Int32) < nI (e - s) from nI_nlt (a := 6) (by omega) (by decide))]
      have ik : f_X8_isKeyword ρ = some (b5 || b6 || b7 || b8 || b9 || b10 || b12) := by
        unfold f_X8_isKeyword
        simp only [w5 c1, w6 c1, w7 c1, w8 c1, w9 c1, w10 c1, w12 c1]
        cases b5 <;> cases b6 <;> cases b7 <;> cases b8 <;> cases b9 <;> cases b10 <;> cases b12 <;> rfl
      refine ⟨!(b5 || b6 || b7 || b8 || b9 || b10 || b12), ?_, ?_, ?_⟩
      · simp only [j5, j6, j7, j8, j9, j10, j12, Option.bind_some, b2i_0]
        cases b5 <;> cases b6 <;> cases b7 <;> cases b8 <;> cases b9 <;> cases b10 <;> cases b12 <;> rfl
      · intro h
        have h : (b5 || b6 || b7 || b8 || b9 || b10 || b12) = false := by rwa [Bool.not_eq_true'] at h
        rw [ik, Option.bind_some, h, if_pos (show b2i false = 0 from rfl)]
        unfold j_X8_lettersHere_35
        obtain ⟨l1, l2⟩ := Tok_l a.2.2.1
        have l3 : ∀ j, s ≤ j → j < s + (e - s) → ltr (gi μ 2 j) := fun j h1 h2 => l2 j h1 (by omega)
        have lt := w32_lt (e - s) l3
        have bd : w32 (gi μ 2) s (e - s) * 32 ^ (6 - (e - s)) < 2 ^ 30 := by
          have h1 : w32 (gi μ 2) s (e - s) * 32 ^ (6 - (e - s)) < 32 ^ (e - s) * 32 ^ (6 - (e - s)) := Nat.mul_lt_mul_of_pos_right lt (Nat.pow_pos (by decide))
          rw [← Nat.pow_add, show e - s + (6 - (e - s)) = 6 by omega] at h1
          exact h1
        rw [m_ck1, Option.bind_some, b.2.2.1, b.2.2.2.1, pk_sub T.2.1, b.2.2.2.2.2.1 rfl, if_pos (show e - s ≤ 12 by omega), wdM_e _ (by omega) l3, lN_i, lt_good ρ (6 - (e - s)) (e - s) _ (by omega) bd gFuel (by unfold gFuel; omega), a.2.2.2.2.2.2.1 rfl, wdC_e _ (by omega) l3]
        rfl
      · intro h
        have h : (b5 || b6 || b7 || b8 || b9 || b10 || b12) = true := by rwa [Bool.not_eq_false'] at h
        rw [ik, Option.bind_some, h, if_neg (show ¬ b2i true = 0 by decide)]
        exact bad
  · rw [if_neg c1, if_neg c1]
    exact ⟨false, rfl, (fun h => by cases h), fun _ => bad⟩
theorem Tok_d {t : Nat → Int32} {s e : Nat} (h : Tok t n p 2 s e) : s < e ∧ ∀ i, s ≤ i → i < e → dgt (t i) := by
  obtain ⟨a1, a2, a3, a4⟩ := h
  rcases a4 with ⟨c1, c2, c3⟩ | ⟨c1, c2, c3⟩
  · cases c2
  · rcases c3 with ⟨x1, x2, x3, x4, x5, x6⟩ | ⟨x1, x2, x3, x4, x5, x6, -⟩ | ⟨x1, x2, x3, x4⟩
    · cases x2
    · exact ⟨x4, x6⟩
    · exfalso
      by_cases c : t s = 59
      · rw [if_pos c] at x4; cases x4
      · rw [if_neg c] at x4; cases x4
theorem RD.nr (R : RD n p μ ρ) (h : gi μ 1 5 = 2) : NRl (gi μ 1 7) (gi ρ 60 16) := by
  obtain ⟨⟨k, s, e, a, b⟩, x, y⟩ := R
  have T := Tok_le a.2.2.1
  have k2 : k = 2 := (nI_eq (b := 2) (by omega) (by decide)).mp (a.2.2.2.2.2.1.symm.trans h)
  subst k2
  rw [a.2.2.2.2.2.2.2 rfl, b.2.2.2.2.2.2 rfl]
  exact (nr_all (e - s) (fun j h1 h2 => (Tok_d a.2.2.1).2 j h1 (by omega))).1
theorem cm_int (R : RD n p μ ρ) {lo hi : Int32} (h1 : hi.toInt ≤ 9999999) :
    (gi μ 1 5 = 2 ∧ inR lo.toInt hi.toInt (gi μ 1 7) ∧ f_X4_isIntegerIn lo hi μ = some (true, μ) ∧ gi ρ 60 16 = gi μ 1 7 ∧ f_X8_inRange (gi ρ 60 16) lo hi ρ = some true) ∨
    ∃ c, c < 0 ∧ f_X4_isIntegerIn lo hi μ = some (false, si μ 1 8 c) ∧ ((gi μ 1 5 ≠ 2 ∧ c = -11) ∨ (gi μ 1 5 = 2 ∧ c = -12 ∧ f_X8_inRange (gi ρ 60 16) lo hi ρ = some false)) := by
  unfold f_X4_isIntegerIn f_X8_inRange
  by_cases k2 : gi μ 1 5 = 2
  · rw [if_pos k2]
    have N := R.nr k2
    have bad : j_X4_isIntegerIn_31 μ = some (false, si μ 1 8 (-12)) := rfl
    generalize hx : gi μ 1 7 = x at *
    generalize hy : gi ρ 60 16 = y at *
    rcases N with ⟨e, a, b⟩ | ⟨a, b⟩
    · subst e
      by_cases d1 : x < lo
      · rw [if_pos d1, if_pos d1]
        exact Or.inr ⟨-12, by decide, bad, Or.inr ⟨k2, rfl, rfl⟩⟩
      · rw [if_neg d1, if_neg d1]
        by_cases d2 : x ≤ hi
        · rw [if_pos d2, if_neg (fun w => by rw [Int32.lt_iff_toInt_lt] at w; rw [Int32.le_iff_toInt_le] at d2; omega)]
          rw [Int32.lt_iff_toInt_lt] at d1
          rw [Int32.le_iff_toInt_le] at d2
          exact Or.inl ⟨k2, ⟨by omega, d2⟩, rfl, rfl, rfl⟩
        · rw [if_neg d2, if_pos (show hi < x by rw [Int32.le_iff_toInt_le] at d2; rw [Int32.lt_iff_toInt_lt]; omega)]
          exact Or.inr ⟨-12, by decide, bad, Or.inr ⟨k2, rfl, rfl⟩⟩
    · right
      refine ⟨-12, by decide, ?_, Or.inr ⟨k2, rfl, ?_⟩⟩
      · by_cases d1 : x < lo
        · rw [if_pos d1]; exact bad
        · rw [if_neg d1, if_neg (fun w => by rw [Int32.le_iff_toInt_le] at w; omega)]; exact bad
      · by_cases d1 : y < lo
        · rw [if_pos d1]
        · rw [if_neg d1, if_pos (show hi < y by rw [Int32.lt_iff_toInt_lt]; omega)]
  · rw [if_neg k2]
    exact Or.inr ⟨-11, by decide, rfl, Or.inl ⟨k2, rfl⟩⟩
theorem cm_ri (R : RD n p μ ρ) {lo hi : Int32} (h1 : hi.toInt ≤ 9999999) :
    (gi μ 1 5 = 2 ∧ inR lo.toInt hi.toInt (gi μ 1 7) ∧ f_X4_isIntegerIn lo hi μ = some (true, μ) ∧ ∀ ρ2, f_X8_advanceIfGood ρ = some ρ2 → f_X8_readInteger lo hi ρ = some (gi μ 1 7, ρ2)) ∨
    ∃ c x, c < 0 ∧ f_X4_isIntegerIn lo hi μ = some (false, si μ 1 8 c) ∧ f_X8_readInteger lo hi ρ = some (x, mE c ρ) := by
  have kd := R.kd
  have g := R.2.1
  unfold f_X8_readInteger
  rw [kd]
  rcases cm_int R h1 (lo := lo) with ⟨k2, a, b, c, d⟩ | ⟨c, hc, a, ⟨k2, e⟩ | ⟨k2, e, d⟩⟩
  · left
    refine ⟨k2, a, b, fun ρ2 h => ?_⟩
    unfold j_X8_readInteger_14
    rw [if_pos k2, m_ck1, Option.bind_some, d, Option.bind_some, show b2i true = 1 from rfl, m_ck1, Option.bind_some, h, c]
    rfl
  · right
    subst e
    obtain ⟨q, hq⟩ := m_inR (gi (mE (-11) ρ) 60 16) lo hi (mE (-11) ρ)
    have g2 : gi (mE (-11) ρ) 60 17 ≠ 0 := by rw [mE_17]; decide
    refine ⟨-11, gi (mE (-11) ρ) 60 16, hc, a, ?_⟩
    unfold j_X8_readInteger_14
    rw [if_neg k2, m_ck0 g, Option.bind_some, hq, Option.bind_some, m_ckE g2, Option.bind_some, m_agE g2, Option.bind_some]
  · right
    subst e
    have g2 : gi (mE (-12) ρ) 60 17 ≠ 0 := by rw [mE_17]; decide
    refine ⟨-12, gi (mE (-12) ρ) 60 16, hc, a, ?_⟩
    unfold j_X8_readInteger_14
    rw [if_pos k2, m_ck1, Option.bind_some, d, Option.bind_some, show b2i false = 0 from rfl, m_ck0 g, Option.bind_some, m_agE g2, Option.bind_some]
/-- the names of both sides are those of v -/
def NM (v : Nat → Nat → Int32) (μ ρ : gM) : Prop := (gi μ 47 0 = nI (nL v) ∧ gi μ 47 1 = nI (nP v) ∧ nL v ≤ 3 ∧ nP v ≤ 16 ∧ (∀ k, k < nL v → gi μ 49 k = v 2 k) ∧ ∀ k, k < nP v → gi μ 51 k = v 4 k) ∧ gi ρ 67 0 = nI (nL v) ∧ gi ρ 67 1 = nI (nP v) ∧ (∀ k, k < nL v → gi ρ 67 (118 + k) = v 2 k) ∧ ∀ k, k < nP v → gi ρ 67 (121 + k) = v 4 k
theorem NM.m {ρ2 : gM} (N : NM v μ ρ) (h : ∀ i, ρ2.1 67 i = ρ.1 67 i) : NM v μ ρ2 := ⟨N.1, (h 0).trans N.2.1, (h 1).trans N.2.2.1, fun k hk => (h _).trans (N.2.2.2.1 k hk), fun k hk => (h _).trans (N.2.2.2.2 k hk)⟩
theorem mE_o {k i : Nat} {c : Int32} (h : k ≠ 60 ∨ (i ≠ 17 ∧ i ≠ 18)) : (mE c ρ).1 k i = ρ.1 k i := by
  show gi (si (si ρ 60 17 c) 60 18 _) k i = gi ρ k i
  rw [gi_si, if_neg (by omega), gi_si, if_neg (by omega)]
theorem NM.E (N : NM v μ ρ) (c : Int32) : NM v μ (mE c ρ) := N.m (fun i => mE_o (by omega))
theorem m_njE (N : NM v μ ρ) (h : gi ρ 60 17 ≠ 0) (y : Int32) : j_X8_readNewName_15 y ρ = some (y, ρ) := by
  unfold j_X8_readNewName_15
  rw [m_fL y N.2.1 N.1.2.2.1 N.2.2.2.1, Option.bind_some, m_fP y N.2.2.1 N.1.2.2.2.1 N.2.2.2.2, m_ckE h, Option.bind_some, m_agE h, Option.bind_some, Option.bind_some, m_ckE h, Option.bind_some, m_agE h, Option.bind_some, ite_self, ite_self]
theorem m_nnE (N : NM v μ ρ) (h : gi ρ 60 17 ≠ 0) : ∃ x, f_X8_readNewName ρ = some (x, ρ) := by
  unfold f_X8_readNewName
  rw [if_neg h, m_njE N h]
  exact ⟨_, rfl⟩
theorem m_ojE (h : gi ρ 60 17 ≠ 0) (y : Int32) : j_X8_oldHere_23 y ρ = some (y, ρ) := by
  unfold j_X8_oldHere_23
  rw [m_ckE h, Option.bind_some, m_ckE h, Option.bind_some, ite_self]
theorem m_ohE (h : gi ρ 60 17 ≠ 0) (j : Int32) : f_X8_oldHere j ρ = some (-1, ρ) := by
  unfold f_X8_oldHere
  rw [if_neg h, m_ojE h]
theorem m_roE (h : gi ρ 60 17 ≠ 0) (j : Int32) : f_X8_readOldName j ρ = some (-1, ρ) := by
  unfold f_X8_readOldName
  rw [m_ohE h, Option.bind_some, m_agE h]; rfl
theorem c_fLN (N : NM v μ ρ) (w : Int32) : f_X3b_findLevel w μ = some (oI (fLv v w)) := c_fL w N.1.1 N.1.2.2.1 N.1.2.2.2.2.1
theorem c_fPN (N : NM v μ ρ) (w : Int32) : f_X3b_findPoint w μ = some (oI (fPv v w)) := c_fP w N.1.2.1 N.1.2.2.2.1 N.1.2.2.2.2.2
theorem m_fLN (N : NM v μ ρ) (w : Int32) : f_X8_find_67 (0 : Int32) w ρ = some (oI (fLv v w)) := m_fL w N.2.1 N.1.2.2.1 N.2.2.2.1
theorem m_fPN (N : NM v μ ρ) (w : Int32) : f_X8_find_67 (1 : Int32) w ρ = some (oI (fPv v w)) := m_fP w N.2.2.1 N.1.2.2.2.1 N.2.2.2.2
theorem fLv_lt {w : Int32} {k : Nat} (h : fLv v w = some k) : k < nL v := (fstN_lt h).1
theorem fPv_lt {w : Int32} {k : Nat} (h : fPv v w = some k) : k < nP v := (fstN_lt h).1
theorem oI_nm {k : Nat} (h : k < 2 ^ 31) : ¬ oI (some k) = -1 := fun w => nI_pos h (show nI k < 0 by rw [show nI k = -1 from w]; decide)
theorem cm_newN (R : RD n p μ ρ) (N : NM v μ ρ) :
    (f_X4_isNewName μ = some (true, μ) ∧ ∀ ρ2, f_X8_advanceIfGood ρ = some ρ2 → f_X8_readNewName ρ = some (gi μ 1 6, ρ2)) ∨
    ∃ c x, c < 0 ∧ f_X4_isNewName μ = some (false, si μ 1 8 c) ∧ f_X8_readNewName ρ = some (x, mE c ρ) := by
  have g := R.2.1
  obtain ⟨b, hb, ht, hf⟩ := cm_name R
  unfold f_X4_isNewName f_X8_readNewName
  rw [hb, Option.bind_some, if_pos g]
  cases b with
  | false =>
    right
    obtain ⟨x, hx⟩ := hf rfl
    refine ⟨-11, x, by decide, rfl, ?_⟩
    rw [hx, Option.bind_some]
    exact m_njE (N.E _) (by rw [mE_17]; decide) x
  | true =>
    have e14 : gi (mE (-14) ρ) 60 17 ≠ 0 := by rw [mE_17]; decide
    rw [if_neg (show ¬ b2i true = 0 by decide), ht rfl, Option.bind_some, c_fLN N, Option.bind_some]
    unfold j_X8_readNewName_15
    simp only [m_fLN N, m_fPN N, Option.bind_some, m_ck0 g, m_agE e14, m_ck1]
    have bl := N.1.2.2.1
    have bp := N.1.2.2.2.1
    cases hL : fLv v (gi μ 1 6) with
    | some k =>
      have := fLv_lt hL
      right
      refine ⟨-14, gi μ 1 6, by decide, ?_, ?_⟩
      · rw [if_neg (oI_nm (by omega))]; rfl
      · rw [if_pos (show 0 ≤ oI (some k) from nI_pos' (by omega))]
    | none =>
      rw [if_pos (show oI none = -1 from rfl), if_neg (show ¬ 0 ≤ oI none by decide), c_fPN N, Option.bind_some]
      cases hP : fPv v (gi μ 1 6) with
      | some k =>
        have := fPv_lt hP
        right
        refine ⟨-14, gi μ 1 6, by decide, ?_, ?_⟩
        · rw [if_neg (oI_nm (by omega))]; rfl
        · rw [if_pos (show 0 ≤ oI (some k) from nI_pos' (by omega))]
      | none =>
        left
        refine ⟨if_pos rfl, fun ρ2 h => ?_⟩
        rw [if_neg (show ¬ 0 ≤ oI none by decide), h]; rfl
theorem cm_oldL (R : RD n p μ ρ) (N : NM v μ ρ) :
    (∃ a, a < nL v ∧ f_X4_isKnownLevel μ = some (true, μ) ∧ f_X3b_findLevel (gi μ 1 6) μ = some (nI a) ∧ f_X8_oldHere 0 ρ = some (nI a, ρ)) ∨
    ∃ c x, c < 0 ∧ f_X4_isKnownLevel μ = some (false, si μ 1 8 c) ∧ f_X8_oldHere 0 ρ = some (x, mE c ρ) := by
  have g := R.2.1
  obtain ⟨b, hb, ht, hf⟩ := cm_name R
  unfold f_X4_isKnownLevel f_X8_oldHere
  rw [hb, Option.bind_some, if_pos g]
  cases b with
  | false =>
    right
    obtain ⟨x, hx⟩ := hf rfl
    refine ⟨-11, oI (fLv v x), by decide, rfl, ?_⟩
    rw [hx, Option.bind_some, m_fLN (N.E _), Option.bind_some]
    exact m_ojE (by rw [mE_17]; decide) _
  | true =>
    rw [if_neg (show ¬ b2i true = 0 by decide), ht rfl, Option.bind_some, c_fLN N, Option.bind_some, m_fLN N, Option.bind_some]
    unfold j_X8_oldHere_23
    have bl := N.1.2.2.1
    cases hL : fLv v (gi μ 1 6) with
    | some k =>
      have := fLv_lt hL
      left
      refine ⟨k, this, ?_, rfl, ?_⟩
      · rw [if_neg (oI_nm (by omega))]
      · rw [if_neg (show ¬ oI (some k) < 0 from nI_pos (by omega)), m_ck1]; rfl
    | none =>
      right
      refine ⟨-13, oI none, by decide, by rw [if_pos (show oI none = -1 from rfl)]; rfl, ?_⟩
      rw [if_pos (show oI none < 0 by decide), m_ck0 g]; rfl
theorem cm_oldP (R : RD n p μ ρ) (N : NM v μ ρ) :
    (∃ a, a < nP v ∧ f_X4_isKnownPoint μ = some (true, μ) ∧ f_X3b_findPoint (gi μ 1 6) μ = some (nI a) ∧ f_X8_oldHere 1 ρ = some (nI a, ρ)) ∨
    ∃ c x, c < 0 ∧ f_X4_isKnownPoint μ = some (false, si μ 1 8 c) ∧ f_X8_oldHere 1 ρ = some (x, mE c ρ) := by
  have g := R.2.1
  obtain ⟨b, hb, ht, hf⟩ := cm_name R
  unfold f_X4_isKnownPoint f_X8_oldHere
  rw [hb, Option.bind_some, if_pos g]
  cases b with
  | false =>
    right
    obtain ⟨x, hx⟩ := hf rfl
    refine ⟨-11, oI (fPv v x), by decide, rfl, ?_⟩
    rw [hx, Option.bind_some, m_fPN (N.E _), Option.bind_some]
    exact m_ojE (by rw [mE_17]; decide) _
  | true =>
    rw [if_neg (show ¬ b2i true = 0 by decide), ht rfl, Option.bind_some, c_fPN N, Option.bind_some, m_fPN N, Option.bind_some]
    unfold j_X8_oldHere_23
    have bl := N.1.2.2.2.1
    cases hL : fPv v (gi μ 1 6) with
    | some k =>
      have := fPv_lt hL
      left
      refine ⟨k, this, ?_, rfl, ?_⟩
      · rw [if_neg (oI_nm (by omega))]
      · rw [if_neg (show ¬ oI (some k) < 0 from nI_pos (by omega)), m_ck1]; rfl
    | none =>
      right
      refine ⟨-13, oI none, by decide, by rw [if_pos (show oI none = -1 from rfl)]; rfl, ?_⟩
      rw [if_pos (show oI none < 0 by decide), m_ck0 g]; rfl
theorem m_begT {j a cap : Nat} {ρ2 : gM} (hj : j < 137) (h : gi ρ 67 j = nI a) (hac : a < cap) (hc : cap < 100) (A : f_X8_advanceIfGood ρ = some ρ2) (F : MF ρ ρ2) : f_X8_begin (nI j) (nI cap) ρ = some (nI a, ρ2) := by
  unfold f_X8_begin j_X8_begin_18
  rw [Int32.zero_add]
  simp (disch := omega) only [gck, nI_clamp]
  rw [h, if_neg (nI_ge hac (by omega)), m_ck1, Option.bind_some, A, Option.bind_some, show gi ρ2 67 j = nI a from (F.1 67 j (by omega)).trans h]
theorem m_begE {j a cap : Nat} (hj : j < 137) (h : gi ρ 67 j = nI a) (hac : cap ≤ a) (ha : a < 100) (g : gi ρ 60 17 = 0) : f_X8_begin (nI j) (nI cap) ρ = some (nI a, mE (-15) ρ) := by
  unfold f_X8_begin j_X8_begin_18
  rw [Int32.zero_add]
  simp (disch := omega) only [gck, nI_clamp]
  rw [h, if_pos (nI_le hac (by omega)), m_ck0 g, Option.bind_some, m_agE (by rw [mE_17]; decide), Option.bind_some, show gi (mE (-15) ρ) 67 j = nI a from (mE_o (by omega)).trans h]
end PM

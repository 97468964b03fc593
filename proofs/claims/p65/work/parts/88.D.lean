/-! each operation -/
section DOS
variable {v : Nat → Nat → Int32} {ν μ : gM}
/-- what an operation leaves -/
def OK (r : Option (Bool × gM × gM)) : Prop := ∃ v' ν' μ', r = some (true, ν', μ') ∧ IV v' ν' μ'
theorem l_ne {a b : Int32} (h : (a == b) = false) : ¬ a = b := fun w => by rw [w] at h; simp at h
theorem l_d0 (Co : CO v μ) (M : LM v ν) (hz : gi μ 20 2 = 0 ∨ gi μ 20 2 = 1) (H : HI μ) (h0 : gi ν 0 10 = 0) {p : Nat} (hp : p < nP v) (x1 x2 : Int32) : OK (j_L_does_43 x1 x2 (nI p) 0 ν μ) := by
  have C := Co.1
  have hb := M.b
  obtain ⟨m, hm, e⟩ := l_mod (x1 >>> ((11 : Int32) &&& 31)) (n := 300000) (by decide) (by decide)
  have hx : inR 0 9999999 (nI m) := by
    unfold inR
    rw [nI_toInt (by omega)]; omega
  obtain ⟨μ', e2, P⟩ := q_hold Co hz H hp hx
  have M' := LM_v5 C M P.1.1
  refine ⟨_, si ν 2 p (nI m), μ', ?_, P.1, M', HA.n P.2.1 ((gi_sik (by decide)).trans h0), P.2.2⟩
  have eP : nP (vset v 5 p (nI m)) = nP v := rfl
  have hc := l_cnt (μ := μ) P.1.1 M' (nI p)
  rw [eP] at hc
  unfold j_L_does_43
  rw [if_pos rfl, show (300000 : Int32) = nI 300000 from rfl, e, Option.bind_some]
  simp (disch := omega) only [gck, nI_clamp]
  rw [Option.bind_some, hc, Option.bind_some, gi_sii, e2, Option.bind_some, if_pos rfl]
theorem l_d1 (Co : CO v μ) (M : LM v ν) (hz : gi μ 20 2 = 0 ∨ gi μ 20 2 = 1) (H : HI μ) (h0 : gi ν 0 10 = 0) {p : Nat} (hp : p < nP v) (x1 x2 : Int32) : OK (j_L_does_43 x1 x2 (nI p) 1 ν μ) := by
  have C := Co.1
  have hb := M.b
  unfold j_L_does_43
  rw [if_neg (l_ne rfl), if_pos rfl]
  simp (disch := omega) only [gck, nI_clamp]
  rw [M.h hp]
  rcases q_release Co hz H hp with ⟨c, e⟩ | ⟨c, μ', e, P⟩
  · obtain ⟨ν', e2, M2, H2⟩ := l_rest Co M hz h0
    rw [if_neg (by rw [c]; decide), e, Option.bind_some, if_pos rfl, e2, Option.bind_some, if_neg (show ¬ b2i true = 0 by decide)]
    exact ⟨v, ν', μ, rfl, Co, M2, H2, H⟩
  · have M' := LM_v5 C M P.1.1
    have hh : hcN (vset v 5 p (-1)) (nP v) < 2 ^ 31 := by
      have : ∀ n, hcN (vset v 5 p (-1)) n ≤ n := fun n => by
        induction n with
        | zero => exact Nat.le_refl _
        | succ n ih =>
          show (if vset v 5 p (-1) 5 n = -1 then hcN (vset v 5 p (-1)) n else hcN (vset v 5 p (-1)) n + 1) ≤ n + 1
          by_cases q : vset v 5 p (-1) 5 n = -1
          · rw [if_pos q]; omega
          · rw [if_neg q]; omega
      have := this (nP v)
      omega
    rw [if_pos ((held_ge C hp).mpr c), Option.bind_some, e, Option.bind_some, if_neg (nI_pos hh)]
    exact ⟨_, _, μ', rfl, P.1, M', HA.n P.2.1 ((gi_sik (by decide)).trans h0), P.2.2⟩
theorem l_291 (Co : CO v μ) (M : LM v ν) (hz : gi μ 20 2 = 0 ∨ gi μ 20 2 = 1) (H : HI μ) (h0 : gi ν 0 10 = 0) {a s w : Nat} (ha : a < nN v) (hs : s < ct v a) (hw : w < 4) {x : Int32} (hx : gdN w x) : OK (j_L_does_291 (nI a) (nI s) (nI w) x ν μ) := by
  have C := Co.1
  have hb := M.b
  have hc := (C.line ha).cnt
  obtain ⟨μ', e, P⟩ := q_setReading Co hz H ha hs hw hx
  have M' := LM_v10 M (by omega) hw P.1.1
  refine ⟨_, si ν (100 + 8 * a + s) w x, μ', ?_, P.1, M', HA.n P.2.1 ((gi_sik (by omega)).trans h0), P.2.2⟩
  unfold j_L_does_291
  rw [M.ll]
  simp (disch := omega) only [gck, nI_clamp]
  rw [M.sz ha]
  simp (disch := omega) only [gck, nI_clamp]
  rw [Option.bind_some, e, Option.bind_some, if_pos (M.rr ha hs hw).symm]
theorem inR_n {lo hi m : Nat} (h1 : lo ≤ m) (h2 : m ≤ hi) (hm : m < 2 ^ 31) : inR (lo : Int) (hi : Int) (nI m) := by
  unfold inR
  rw [nI_toInt hm]; omega
theorem gd_01 {w m : Nat} (hw : w < 2) (hm : m ≤ 40000) : gdN w (nI m) := by
  unfold gdN
  rw [if_pos hw]
  exact inR_n (lo := 0) (hi := 40000) (Nat.zero_le _) hm (by omega)
theorem gd_23 {w m : Nat} (hw : 2 ≤ w) (h1 : 1 ≤ m) (hm : m ≤ 100) : gdN w (nI m) := by
  unfold gdN
  rw [if_neg (by omega)]
  exact inR_n (lo := 1) (hi := 100) h1 hm (by omega)
theorem l_d2 (Co : CO v μ) (M : LM v ν) (hz : gi μ 20 2 = 0 ∨ gi μ 20 2 = 1) (H : HI μ) (h0 : gi ν 0 10 = 0) {a : Nat} (ha : a < nN v) (x1 x3 : Int32) : OK (j_L_does_43 x1 (nI a) x3 2 ν μ) := by
  have C := Co.1
  have hb := M.b
  have hc := (C.line ha).cnt
  obtain ⟨s, hs, e1⟩ := l_mod (x1 >>> ((12 : Int32) &&& 31)) (n := ct v a) (by omega) (by omega)
  obtain ⟨w, hw, e2⟩ := l_mod (x1 >>> ((14 : Int32) &&& 31)) (n := 4) (by decide) (by decide)
  obtain ⟨m, hm, e3⟩ := l_mod (x1 >>> ((16 : Int32) &&& 31)) (n := 100) (by decide) (by decide)
  obtain ⟨m', hm', e4⟩ := l_mod (x1 >>> ((16 : Int32) &&& 31)) (n := 5000) (by decide) (by decide)
  unfold j_L_does_43
  rw [if_neg (l_ne rfl), if_neg (l_ne rfl), if_pos rfl, M.ll]
  simp (disch := omega) only [gck, nI_clamp]
  rw [M.sz ha, e1, Option.bind_some, show (4 : Int32) = nI 4 from rfl, e2, Option.bind_some]
  by_cases c : 2 ≤ w
  · rw [if_pos (show (2 : Int32) ≤ nI w from nI_le (a := 2) c (by omega)), show (100 : Int32) = nI 100 from rfl, e3, Option.bind_some, show (1 : Int32) = nI 1 from rfl, nI_add]
    exact l_291 Co M hz H h0 ha hs hw (gd_23 c (by omega) (by omega))
  · rw [if_neg (show ¬ (2 : Int32) ≤ nI w from nI_ge (b := 2) (by omega) (by decide)), show (5000 : Int32) = nI 5000 from rfl, e4, Option.bind_some]
    exact l_291 Co M hz H h0 ha hs hw (gd_01 (by omega) (by omega))
theorem l_448 (Co : CO v μ) (M : LM v ν) (hz : gi μ 20 2 = 0 ∨ gi μ 20 2 = 1) (H : HI μ) (h0 : gi ν 0 10 = 0) {a : Nat} (ha : a < nN v) {z0 : Nat → Int32} (g0 : gdN 0 (z0 0)) (g1 : gdN 1 (z0 1)) (g2 : gdN 2 (z0 2)) (g3 : gdN 3 (z0 3)) {y : Int32} (hy : y = if nI (ct v a) = (8 : Int32) then 1 else 0) : OK (j_L_does_448 (nI a) y z0 ν μ) := by
  have C := Co.1
  have hb := M.b
  have hc := (C.line ha).cnt
  unfold j_L_does_448
  rw [hy]
  by_cases c : ct v a = 8
  · obtain ⟨ν', e2, M2, H2⟩ := l_rest Co M hz h0
    rw [if_pos (show nI (ct v a) = (8 : Int32) by rw [c]; rfl), if_neg (by decide), q_addFull Co ha c g0 g1 g2 g3, Option.bind_some, if_pos rfl, e2, Option.bind_some, if_neg (show ¬ b2i true = 0 by decide)]
    exact ⟨v, ν', μ, rfl, Co, M2, H2, H⟩
  · have h8 : ct v a < 8 := by omega
    obtain ⟨μ', e, P⟩ := q_add Co hz H ha h8 g0 g1 g2 g3
    have M' := LM_add M ha h8 P.1.1 (g := z0) (fun w hw => by
      have h4 : w = 0 ∨ w = 1 ∨ w = 2 ∨ w = 3 := by omega
      rcases h4 with q | q | q | q <;> subst q <;> rfl)
    have er : ∀ i, gi (lgrow ν a z0) (100 + 8 * a + ct v a) i = z0 i := fun i => by
      unfold lgrow
      rw [gi_sia, M.sz ha, if_pos rfl]
    rw [if_neg (show ¬ nI (ct v a) = (8 : Int32) from fun w => c ((nI_eq (b := 8) (by omega) (by decide)).mp w)), if_pos rfl, M.ll]
    simp (disch := omega) only [gck, nI_clamp]
    rw [M.sz ha, gckb h8, Option.bind_some, er, er, er, er, e, Option.bind_some, M'.ll, show nN (vadd v a (ct v a) (xs4 (z0 0) (z0 1) (z0 2) (z0 3))) = nN v from congrArg Int32.toNatClampNeg (va_o (by decide) (by decide))]
    simp (disch := omega) only [gck, nI_clamp]
    rw [M'.sz (by rw [show nN (vadd v a (ct v a) (xs4 (z0 0) (z0 1) (z0 2) (z0 3))) = nN v from congrArg Int32.toNatClampNeg (va_o (by decide) (by decide))]; exact ha), va_ct h8, if_pos rfl]
    refine ⟨_, _, μ', rfl, P.1, M', HA.n P.2.1 ?_, P.2.2⟩
    unfold lgrow
    rw [gi_sia, if_neg (by omega), gi_sik (by omega), gi_sik (by omega)]
    exact h0
theorem l_d3 (Co : CO v μ) (M : LM v ν) (hz : gi μ 20 2 = 0 ∨ gi μ 20 2 = 1) (H : HI μ) (h0 : gi ν 0 10 = 0) {a : Nat} (ha : a < nN v) (x1 x3 : Int32) : OK (j_L_does_43 x1 (nI a) x3 3 ν μ) := by
  have C := Co.1
  have hb := M.b
  have hc := (C.line ha).cnt
  obtain ⟨m1, h1, e1⟩ := l_mod (x1 >>> ((5 : Int32) &&& 31)) (n := 4000) (by decide) (by decide)
  obtain ⟨m2, h2, e2⟩ := l_mod (x1 >>> ((9 : Int32) &&& 31)) (n := 4000) (by decide) (by decide)
  obtain ⟨m3, h3, e3⟩ := l_mod (x1 >>> ((12 : Int32) &&& 31)) (n := 100) (by decide) (by decide)
  obtain ⟨m4, h4, e4⟩ := l_mod (x1 >>> ((16 : Int32) &&& 31)) (n := 100) (by decide) (by decide)
  unfold j_L_does_43
  rw [if_neg (l_ne rfl), if_neg (l_ne rfl), if_neg (l_ne rfl), if_pos rfl, show (4000 : Int32) = nI 4000 from rfl, e1, Option.bind_some, e2, Option.bind_some, show (100 : Int32) = nI 100 from rfl, e3, Option.bind_some, e4, Option.bind_some, M.ll]
  simp (disch := omega) only [gck, nI_clamp]
  rw [M.sz ha]
  have G0 : gdN 0 (upd (upd (upd (upd (fun _ => 0) 0 (nI m1)) 1 (nI m2)) 2 ((1 : Int32) + nI m3)) 3 ((1 : Int32) + nI m4) 0) := by
    show gdN 0 (nI m1)
    exact gd_01 (by decide) (by omega)
  have G1 : gdN 1 (upd (upd (upd (upd (fun _ => 0) 0 (nI m1)) 1 (nI m2)) 2 ((1 : Int32) + nI m3)) 3 ((1 : Int32) + nI m4) 1) := by
    show gdN 1 (nI m2)
    exact gd_01 (by decide) (by omega)
  have G2 : gdN 2 (upd (upd (upd (upd (fun _ => 0) 0 (nI m1)) 1 (nI m2)) 2 ((1 : Int32) + nI m3)) 3 ((1 : Int32) + nI m4) 2) := by
    show gdN 2 (nI 1 + nI m3)
    rw [nI_add]
    exact gd_23 (by decide) (by omega) (by omega)
  have G3 : gdN 3 (upd (upd (upd (upd (fun _ => 0) 0 (nI m1)) 1 (nI m2)) 2 ((1 : Int32) + nI m3)) 3 ((1 : Int32) + nI m4) 3) := by
    show gdN 3 (nI 1 + nI m4)
    rw [nI_add]
    exact gd_23 (by decide) (by omega) (by omega)
  by_cases c : nI (ct v a) = (8 : Int32)
  · rw [if_pos c]
    exact l_448 Co M hz H h0 ha G0 G1 G2 G3 (if_pos c).symm
  · rw [if_neg c]
    exact l_448 Co M hz H h0 ha G0 G1 G2 G3 (if_neg c).symm
theorem l_582 (Co : CO v μ) (M : LM v ν) (hz : gi μ 20 2 = 0 ∨ gi μ 20 2 = 1) (H : HI μ) (h0 : gi ν 0 10 = 0) {a : Nat} (ha : a < nN v) {y : Int32} (hy : y = 0 ∨ y = 1) : OK (j_L_does_582 (nI a) (nI a) y ν μ) := by
  have C := Co.1
  have hb := M.b
  obtain ⟨A, μ', hA, hbt, e, P⟩ := q_setActive Co hz H ha y
  have M' := LM_v0 C M hA hy hbt
  obtain ⟨μ2, e2, F2⟩ := q_loopCount P.1
  refine ⟨_, si ν 5 a y, μ2, ?_, P.1.fr F2, M', HA.n ((F2.1 20 2 rfl).trans P.2.1) ((gi_sik (by decide)).trans h0), P.2.2.fr F2⟩
  unfold j_L_does_582
  rw [M.ll]
  simp (disch := omega) only [gck, nI_clamp]
  rw [gckb hy, Option.bind_some, M'.ll, show nN (vset v 0 4 (nI A)) = nN v from congrArg Int32.toNatClampNeg (vs_i (by decide))]
  simp (disch := omega) only [gck, nI_clamp]
  rw [gi_sii, e, Option.bind_some, e2, Option.bind_some, if_pos rfl]
theorem l_d4 (Co : CO v μ) (M : LM v ν) (hz : gi μ 20 2 = 0 ∨ gi μ 20 2 = 1) (H : HI μ) (h0 : gi ν 0 10 = 0) {a : Nat} (ha : a < nN v) (x1 x3 : Int32) : OK (j_L_does_43 x1 (nI a) x3 4 ν μ) ∧ OK (j_L_does_43 x1 (nI a) x3 5 ν μ) := by
  obtain ⟨m, hm, e⟩ := l_mod (x1 >>> ((12 : Int32) &&& 31)) (n := 3) (by decide) (by decide)
  constructor
  · unfold j_L_does_43
    rw [if_neg (l_ne rfl), if_neg (l_ne rfl), if_neg (l_ne rfl), if_neg (l_ne rfl), if_pos rfl, show (3 : Int32) = nI 3 from rfl, e, Option.bind_some]
    split
    · exact l_582 Co M hz H h0 ha (Or.inl rfl)
    · exact l_582 Co M hz H h0 ha (Or.inr rfl)
  · unfold j_L_does_43
    rw [if_neg (l_ne rfl), if_neg (l_ne rfl), if_neg (l_ne rfl), if_neg (l_ne rfl), if_neg (l_ne rfl), if_pos rfl, show (3 : Int32) = nI 3 from rfl, e, Option.bind_some]
    split
    · exact l_582 Co M hz H h0 ha (Or.inl rfl)
    · exact l_582 Co M hz H h0 ha (Or.inr rfl)
theorem l_d6 (Co : CO v μ) (M : LM v ν) (hz : gi μ 20 2 = 0 ∨ gi μ 20 2 = 1) (H : HI μ) (h0 : gi ν 0 10 = 0) (x1 x2 x3 : Int32) : OK (j_L_does_43 x1 x2 x3 6 ν μ) := by
  have hb := M.b
  obtain ⟨l, hl, e1⟩ := l_mod (x1 >>> ((12 : Int32) &&& 31)) (n := 2) (by decide) (by decide)
  obtain ⟨m, hm, e2⟩ := l_mod (x1 >>> ((14 : Int32) &&& 31)) (n := 401) (by decide) (by decide)
  have hx : inR (-200) 200 (nI m - (200 : Int32)) := by
    have e200 : (200 : Int32).toInt = 200 := by decide
    have e : (nI m - (200 : Int32)).toInt = (m : Int) - 200 := by
      rw [i32_sub (by rw [nI_toInt (by omega), e200]; omega), nI_toInt (by omega), e200]
    unfold inR
    rw [e]; omega
  obtain ⟨μ', e, P⟩ := q_setColl Co hz H (l := l) (by omega) hx
  have M' := LM_v3 M P.1.1
  refine ⟨_, si ν 1 l (nI m - (200 : Int32)), μ', ?_, P.1, M', HA.n P.2.1 ((gi_sik (by decide)).trans h0), P.2.2⟩
  unfold j_L_does_43
  rw [if_neg (l_ne rfl), if_neg (l_ne rfl), if_neg (l_ne rfl), if_neg (l_ne rfl), if_neg (l_ne rfl), if_neg (l_ne rfl), if_pos rfl, show (2 : Int32) = nI 2 from rfl, e1, Option.bind_some, show (401 : Int32) = nI 401 from rfl, e2, Option.bind_some]
  simp (disch := omega) only [gck, nI_clamp]
  rw [Option.bind_some, gi_sii, e, Option.bind_some, if_pos (M.c hl).symm]
theorem l_d7 (Co : CO v μ) (M : LM v ν) (hz : gi μ 20 2 = 0 ∨ gi μ 20 2 = 1) (H : HI μ) (x1 x2 x3 : Int32) {x4 : Int32} (h4 : x4 = 7 ∨ x4 = 8) : OK (j_L_does_43 x1 x2 x3 x4 ν μ) := by
  have C := Co.1
  obtain ⟨m, hm, e1⟩ := l_mod (x1 >>> ((12 : Int32) &&& 31)) (n := 30) (by decide) (by decide)
  obtain ⟨μ', e2, Co2, H2, z2, g2⟩ := q_adjust Co hz H (r := 1 + m) (by omega) (by omega)
  obtain ⟨ν', e3, M3, z3, g3⟩ := l_adjusts (μ := μ') C M (r := 1 + m) (by omega)
  refine ⟨v, ν', μ', ?_, Co2, M3, ⟨Or.inr z2, z3.trans z2.symm, fun _ p hp => (g3 p hp).trans (g2 p hp).symm⟩, H2⟩
  have n0 : ¬ x4 = 0 := by rcases h4 with h | h <;> subst h <;> decide
  have n1 : ¬ x4 = 1 := by rcases h4 with h | h <;> subst h <;> decide
  have n2 : ¬ x4 = 2 := by rcases h4 with h | h <;> subst h <;> decide
  have n3 : ¬ x4 = 3 := by rcases h4 with h | h <;> subst h <;> decide
  have n4 : ¬ x4 = 4 := by rcases h4 with h | h <;> subst h <;> decide
  have n5 : ¬ x4 = 5 := by rcases h4 with h | h <;> subst h <;> decide
  have n6 : ¬ x4 = 6 := by rcases h4 with h | h <;> subst h <;> decide
  unfold j_L_does_43
  rw [if_neg n0, if_neg n1, if_neg n2, if_neg n3, if_neg n4, if_neg n5, if_neg n6, show (30 : Int32) = nI 30 from rfl, e1, Option.bind_some, show (1 : Int32) = nI 1 from rfl, nI_add, e2, Option.bind_some, e3, Option.bind_some, if_pos rfl]
theorem l_does (I : IV v ν μ) (x : Int32) : OK (f_L_does x ν μ) := by
  obtain ⟨Co, M, Ha, H⟩ := I
  have hb := M.b
  have hz := Ha.1
  obtain ⟨a, ha, e1⟩ := l_mod (x >>> ((4 : Int32) &&& 31)) (n := nN v) (by omega) (by omega)
  obtain ⟨p, hp, e2⟩ := l_mod (x >>> ((8 : Int32) &&& 31)) (n := nP v) (by omega) (by omega)
  obtain ⟨o, ho, e3⟩ := l_mod x (n := 9) (by decide) (by decide)
  unfold f_L_does
  rw [M.N, e1, Option.bind_some, M.P, e2, Option.bind_some, show (9 : Int32) = nI 9 from rfl, e3, Option.bind_some]
  by_cases c : 7 ≤ o
  · rw [if_pos (show (7 : Int32) ≤ nI o from nI_le (a := 7) c (by omega))]
    refine l_d7 Co M hz H x (nI a) (nI p) ?_
    have h : o = 7 ∨ o = 8 := by omega
    rcases h with h | h <;> subst h
    · exact Or.inl rfl
    · exact Or.inr rfl
  · rw [if_neg (show ¬ (7 : Int32) ≤ nI o from nI_ge (b := 7) (by omega) (by decide)), Option.bind_some]
    have M0 : LM v (si ν 0 10 0) := M.cg (fun k i h => by rw [gi_si, if_neg (by omega)])
    have z0 : gi (si ν 0 10 0) 0 10 = 0 := gi_sii
    have h : o = 0 ∨ o = 1 ∨ o = 2 ∨ o = 3 ∨ o = 4 ∨ o = 5 ∨ o = 6 := by omega
    rcases h with h | h | h | h | h | h | h <;> subst h
    · exact l_d0 Co M0 hz H z0 hp x (nI a)
    · exact l_d1 Co M0 hz H z0 hp x (nI a)
    · exact l_d2 Co M0 hz H z0 ha x (nI p)
    · exact l_d3 Co M0 hz H z0 ha x (nI p)
    · exact (l_d4 Co M0 hz H z0 ha x (nI p)).1
    · exact (l_d4 Co M0 hz H z0 ha x (nI p)).2
    · exact l_d6 Co M0 hz H z0 x (nI a) (nI p)
end DOS

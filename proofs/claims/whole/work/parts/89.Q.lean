/-! the line to suspect, loops without a line (39 40) -/
section QN
variable {u v : Nat → Nat → Int32} {μ : gM} {A : Nat}
noncomputable def suf (v : Nat → Nat → Int32) (A : Nat) : Nat → Option Nat × Nat
  | 0 => (none, 0)
  | k + 1 => if boN v A k ≤ (suf v A k).2 then suf v A k else (some k, boN v A k)
theorem suf_s (k : Nat) : suf v A (k + 1) = if boN v A k ≤ (suf v A k).2 then suf v A k else (some k, boN v A k) := rfl
theorem suf_I : ∀ k, ((suf v A k).1 = none → (suf v A k).2 = 0) ∧ ∀ j, (suf v A k).1 = some j → j < k ∧ (suf v A k).2 = boN v A j
  | 0 => ⟨fun _ => rfl, fun j h => by cases h⟩
  | k + 1 => by
    obtain ⟨h1, h2⟩ := suf_I k
    rw [suf_s]
    by_cases c : boN v A k ≤ (suf v A k).2
    · rw [if_pos c]; exact ⟨h1, fun j h => ⟨Nat.lt_succ_of_lt (h2 j h).1, (h2 j h).2⟩⟩
    · rw [if_neg c]
      refine ⟨(fun h => by cases h), fun j h => ?_⟩
      have e : k = j := Option.some.inj h
      subst e
      exact ⟨Nat.lt_succ_self _, rfl⟩
theorem suf_b (C : CI v) : ∀ k, (suf v A k).2 ≤ 20
  | 0 => Nat.zero_le _
  | k + 1 => by
    rw [suf_s]
    split
    · exact suf_b C k
    · exact boN_le C k
theorem sim_39 (R : Rel μ) : simOK μ (f_case_39 μ) := by
  refine workE (fC := f_X7_suspectLine μ) (fM := f_X8_suspectLine) R ?_
  obtain ⟨v, hv⟩ : ∃ v, v = nv 34 μ := ⟨_, rfl⟩
  obtain ⟨A, hA⟩ : ∃ A, A = nA v := ⟨_, rfl⟩
  obtain ⟨ν, e, F, H⟩ := c_findA R.co
  have C := R.1
  have hN := (R.co.fr F).N
  rw [← hv] at H C hN ⊢
  rw [← hA] at H
  have hb := C.b
  refine ⟨oI (suf v A (nN v)).1, ν, ?_, F, fun ρ M => ?_⟩
  · obtain ⟨q, h1, h2⟩ := gloop_rel (body := fun t => b_X7_suspectLine_24 t.1 t.2.1 t.2.2 ν) (fun i t => t.1 = oI (suf v A i).1 ∧ t.2.1 = nI (suf v A i).2 ∧ t.2.2 = nI i) (fun q => q = oI (suf v A (nN v)).1) (nN v) (fun i t hi hR => by
      obtain ⟨x, y, z⟩ := t
      obtain ⟨a1, a2, a3⟩ := hR
      have a1 : x = oI (suf v A i).1 := a1
      have a2 : y = nI (suf v A i).2 := a2
      have a3 : z = nI i := a3
      subst a1 a2 a3
      have sb := suf_b (A := A) C i
      have bb := boN_le (A := A) C i
      show (∃ t, b_X7_suspectLine_24 _ _ (nI i) ν = _ ∧ _) ∨ ∃ r, b_X7_suspectLine_24 _ _ _ ν = _ ∧ _
      unfold b_X7_suspectLine_24
      rw [hN]
      by_cases c : i < nN v
      · left
        rw [if_neg (nI_ge c (by omega)), c_badOnly C H (by omega), Option.bind_some, nI_1]
        by_cases d : boN v A i ≤ (suf v A i).2
        · rw [if_pos (nI_le d (by omega))]
          exact ⟨_, rfl, ⟨by rw [suf_s, if_pos d], by rw [suf_s, if_pos d], rfl⟩, c⟩
        · rw [if_neg (nI_ge (by omega) (by omega))]
          exact ⟨_, rfl, ⟨by rw [suf_s, if_neg d]; rfl, by rw [suf_s, if_neg d], rfl⟩, c⟩
      · right
        have e : i = nN v := by omega
        subst e
        exact ⟨_, if_pos (nI_le (Nat.le_refl _) (by omega)), rfl⟩) (by unfold gFuel; omega) (s0 := (-1, nI 0, nI 0)) ⟨rfl, rfl, rfl⟩
    subst h2
    unfold f_X7_suspectLine
    rw [e, Option.bind_some, show gloop (fun t => b_X7_suspectLine_24 t.1 t.2.1 t.2.2 ν) gFuel ((-1 : Int32), (0 : Int32), (0 : Int32)) = _ from h1]
    rfl
  · obtain ⟨ν1, e1, F1, L1⟩ := m_layL (M.si6 0)
    have M1 := (M.si6 0).fr F1.1
    obtain ⟨⟨x, ν2⟩, h1, h2, F2⟩ := gloop_rel (body := fun t => b_X8_suspectLine_13 t.1 t.2.1 t.2.2) (fun i t => t.1 = oI (suf v A i).1 ∧ t.2.1 = nI i ∧ LF ν1 t.2.2) (fun q => q.1 = oI (suf v A (nN v)).1 ∧ LF ν1 q.2) (nN v) (fun i t hi hR => by
      obtain ⟨x, z, ν⟩ := t
      obtain ⟨a1, a3, F⟩ := hR
      have a1 : x = oI (suf v A i).1 := a1
      have a3 : z = nI i := a3
      subst a1 a3
      replace F : LF ν1 ν := F
      have L := L1.lf F
      have sb := suf_b (A := A) C i
      have bb := boN_le (A := A) C i
      have sI := suf_I (v := v) (A := A) i
      show (∃ t, b_X8_suspectLine_13 _ (nI i) ν = _ ∧ _) ∨ ∃ r, b_X8_suspectLine_13 _ _ ν = _ ∧ _
      unfold b_X8_suspectLine_13
      rw [m_cN (M1.fr F.fr), Option.bind_some]
      by_cases c : i < nN v
      · left
        obtain ⟨ν3, g1, g2⟩ := m_blame (M1.fr F.fr) L (k := i) (by omega)
        rw [← hA] at g1
        rw [if_neg (nI_ge c (by omega)), g1, Option.bind_some]
        cases ew : (suf v A i).1 with
        | none =>
          have hz := sI.1 ew
          rw [if_neg (show ¬ 0 ≤ oI none by decide)]
          unfold j_X8_suspectLine_40
          dsimp only
          rw [nI_1]
          by_cases d : boN v A i ≤ (suf v A i).2
          · rw [if_pos (show nI (boN v A i) ≤ (0 : Int32) from nI_le (b := 0) (by omega) (by omega))]
            exact ⟨_, rfl, ⟨by rw [suf_s, if_pos d, ew], rfl, F.tr g2⟩, c⟩
          · rw [if_neg (show ¬ nI (boN v A i) ≤ (0 : Int32) from nI_ge (a := 0) (by omega) (by omega))]
            exact ⟨_, rfl, ⟨by rw [suf_s, if_neg d]; rfl, rfl, F.tr g2⟩, c⟩
        | some j =>
          obtain ⟨hj, hz⟩ := sI.2 j ew
          obtain ⟨ν4, g3, g4⟩ := m_blame (M1.fr (F.tr g2).fr) (L.lf g2) (k := j) (by omega)
          rw [← hA] at g3
          rw [if_pos (show 0 ≤ oI (some j) from Int32.not_lt.mp (lt0_I (by omega))), show oI (some j) = nI j from rfl, g3, Option.bind_some]
          unfold j_X8_suspectLine_40
          dsimp only
          rw [nI_1]
          by_cases d : boN v A i ≤ (suf v A i).2
          · rw [if_pos (nI_le (by omega) (by omega))]
            exact ⟨_, rfl, ⟨by rw [suf_s, if_pos d, ew]; rfl, rfl, (F.tr g2).tr g4⟩, c⟩
          · rw [if_neg (nI_ge (by omega) (by omega))]
            exact ⟨_, rfl, ⟨by rw [suf_s, if_neg d]; rfl, rfl, (F.tr g2).tr g4⟩, c⟩
      · right
        have e : i = nN v := by omega
        subst e
        exact ⟨_, if_pos (nI_le (Nat.le_refl _) (by omega)), rfl, F⟩) (by unfold gFuel; omega) (s0 := (-1, nI 0, ν1)) ⟨rfl, rfl, LF.rf ν1⟩
    have h2 : x = oI (suf v A (nN v)).1 := h2
    subst h2
    refine ⟨ν2, ?_, ((si60 0).tr F1.1).tr (LF.fr F2)⟩
    unfold f_X8_suspectLine
    rw [e1, Option.bind_some, show gloop (fun t => b_X8_suspectLine_13 t.1 t.2.1 t.2.2) gFuel ((-1 : Int32), (0 : Int32), ν1) = _ from h1]
    rfl
/-- networks that differ in what is active only -/
def AC (u v : Nat → Nat → Int32) : Prop := (∀ j, j ≠ 0 → u j = v j) ∧ nN u = nN v ∧ nP u = nP v
theorem AC.f (H : AC u v) : fs u = fs v := by funext k; unfold fs; rw [H.1 6 (by decide)]
theorem AC.s (H : AC u v) : sn u = sn v := by funext k; unfold sn; rw [H.1 7 (by decide)]
theorem AC.c (H : AC u v) : ct u = ct v := by funext k; unfold ct; rw [H.1 9 (by decide)]
theorem AC.xsm (H : AC u v) (k w : Nat) : ∀ n, sm u k w n = sm v k w n
  | 0 => rfl
  | n + 1 => by
    show sm u k w n + rd u k n w = sm v k w n + rd v k n w
    rw [AC.xsm H k w n]; unfold rd; rw [H.1 10 (by decide)]
theorem AC.xln (H : AC u v) : ln u = ln v := by funext k; unfold ln; rw [H.xsm, H.xsm, H.c]
theorem AC.xrsm (H : AC u v) (k : Nat) : ∀ n, rsm u k n = rsm v k n
  | 0 => rfl
  | n + 1 => by
    show rsm u k n + stp u k n = rsm v k n + stp v k n
    rw [AC.xrsm H k n]; unfold stp lv; rw [H.1 10 (by decide), H.1 3 (by decide), H.1 8 (by decide)]
theorem AC.xris (H : AC u v) : ris u = ris v := by funext k; unfold ris; rw [H.xrsm, H.c]
theorem AC.xrfr (H : AC u v) : rfr u = rfr v := by funext p k; unfold rfr; rw [H.f, H.xris]
theorem AC.xtbs (H : AC u v) : tbs u = tbs v := by
  funext A M X r t
  have e : tvis u r = tvis v r := by funext p k Y; unfold tvis oO; rw [H.f, H.s]
  unfold tbs; rw [e, H.f, H.s, H.2.1]
theorem AC.xtgr (H : AC u v) (A : Nat) : ∀ r, tgr u A r = tgr v A r
  | 0 => rfl
  | r + 1 => by rw [tgr_s, tgr_s, AC.xtgr H A r, H.xtbs, H.2.2]
theorem AC.xtbr (H : AC u v) (A : Nat) : tbr u A = tbr v A := by unfold tbr; rw [H.xtgr, H.2.2]
theorem AC.xnlp (H : AC u v) (A : Nat) : nlp u A = nlp v A := by unfold nlp; rw [H.xtbr, H.2.1]
theorem AC.xdpv (H : AC u v) (A : Nat) : dpv u A = dpv v A := by unfold dpv; rw [H.xtgr, H.2.2]
theorem AC.xupv (H : AC u v) (A : Nat) : upv u A = upv v A := by unfold upv; rw [H.xtgr, H.2.2]
theorem AC.xulN (H : AC u v) (A : Nat) : ulN u A = ulN v A := by funext p; unfold ulN ulv; rw [H.xtgr, H.2.2]
theorem AC.xwyl (H : AC u v) (A : Nat) : ∀ f h g, wyl u A f h g = wyl v A f h g
  | 0, _, _ => rfl
  | f + 1, h, g => by
    show (if h = g then [] else if dpv u A g ≤ dpv u A h then (ulN u A h, h) :: wyl u A f (upv u A h) g else wyl u A f h (upv u A g) ++ [(ulN u A g, upv u A g)]) = (if h = g then [] else if dpv v A g ≤ dpv v A h then (ulN v A h, h) :: wyl v A f (upv v A h) g else wyl v A f h (upv v A g) ++ [(ulN v A g, upv v A g)])
    rw [H.xdpv, H.xulN, H.xupv, AC.xwyl H A f, AC.xwyl H A f]
theorem AC.xXL (H : AC u v) (A i : Nat) : XL u A i = XL v A i := by
  unfold XL lpk lway
  rw [H.xtbr, H.2.1, H.xwyl, H.xdpv, H.f, H.s]
theorem AC.xwE (H : AC u v) (A i : Nat) : wE u A i = wE v A i := by
  have e1 : ∀ L, wrs u L = wrs v L := fun L => by unfold wrs; rw [H.xrfr]
  have e2 : ∀ L, lmt u L = lmt v L := fun L => by unfold lmt lmX tol wln; rw [H.xln, H.1 1 (by decide)]
  unfold wE
  rw [H.xXL, e1, e2]
theorem AC.xbsf (H : AC u v) (A : Nat) : ∀ n, bsf u A n = bsf v A n
  | 0 => rfl
  | n + 1 => by
    show (if 0 < wE u A n then bsf u A n ||| ((1 : Int32) <<< (nI n &&& 31)) else bsf u A n) = (if 0 < wE v A n then bsf v A n ||| ((1 : Int32) <<< (nI n &&& 31)) else bsf v A n)
    rw [H.xwE, AC.xbsf H A n]
theorem bsf_b : ∀ n, n ≤ 32 → ∀ i, i < 32 → n ≤ i → bt (bsf v A n) i = false
  | 0, _, i, _, _ => b_0 i
  | n + 1, hn, i, hi, h => by
    show bt (if 0 < wE v A n then bsf v A n ||| ((1 : Int32) <<< (nI n &&& 31)) else bsf v A n) i = false
    have ih := bsf_b n (by omega) i hi (by omega)
    split
    · rw [b_or, ih, b_one n (by omega) i hi, decide_eq_false (by omega)]; rfl
    · exact ih
theorem m_bits (x : Int32) : f_X8_bits x μ = some (nI (pcn x 20)) := by
  have pl : ∀ n, pcn x n ≤ n := fun n => by
    induction n with
    | zero => exact Nat.le_refl _
    | succ n ih => show pcn x n + _ ≤ n + 1; split <;> omega
  have g : gloop (fun t => b_X8_bits_4 x t.1 t.2 μ) gFuel (nI (pcn x 0), nI 0) = some (nI (pcn x 20)) := by
    refine gloop_run (fun i => (nI (pcn x i), nI i)) 20 (fun i hi => ?_) ?_ gFuel (by unfold gFuel; omega)
    · show b_X8_bits_4 x (nI (pcn x i)) (nI i) μ = some (Sum.inl (nI (pcn x (i + 1)), nI (i + 1)))
      unfold b_X8_bits_4
      rw [if_neg (show ¬ (20 : Int32) ≤ nI i from nI_ge (b := 20) hi (by decide)), b_test (by omega), nI_1]
      show _ = some (Sum.inl (nI (pcn x i + (if bt x i = true then 1 else 0)), nI (i + 1)))
      by_cases c : bt x i = true
      · rw [if_pos c, if_pos c, nI_1]
      · rw [if_neg c, if_neg c, Int32.add_zero]; rfl
    · exact if_pos (show nI 20 ≤ nI 20 from nI_le (Nat.le_refl _) (by omega))
  unfold f_X8_bits
  rw [show gloop (fun t => b_X8_bits_4 x t.1 t.2 μ) gFuel ((0 : Int32), (0 : Int32)) = _ from g]
  rfl
theorem sim_40 (s1 : Int32) (R : Rel μ) : simOK μ (f_case_40 s1 μ) := by
  have hb := R.1.b
  refine workI (fC := f_X7_badWithout s1 μ) (fM := f_X8_badWithout s1) R ?_
  rcases ix3 s1 (n := nN (nv 34 μ)) (by omega) with h | ⟨a, ha, rfl⟩
  · refine Or.inl ⟨μ, ?_, Fr.rf μ, 0, si μ 60 6 1, ?_, si60 1, gi_sii⟩
    · unfold f_X7_badWithout; rw [R.co.N, needB (by omega) h]; rfl
    · unfold f_X8_badWithout; rw [m_lineB R.mo h]; rfl
  · have sb := fun i (hi : i < 32) => sact_b R.1.A31 (show a < 32 by omega) 0 hi
    obtain ⟨A, hx, hA, hAb⟩ := setN (x := sact (nA (nv 34 μ)) a 0) (n := nN (nv 34 μ)) (by omega) (fun i hi hni => by
      rw [sb i hi, if_neg (by omega)]; exact tb_out R.1.b.2.2.2.2 hni)
    have h31 : A < 2 ^ 31 := Nat.lt_trans hA (Nat.pow_lt_pow_right (by decide) (by omega))
    have C2 : CI (vset (nv 34 μ) 0 4 (nI A)) := CI_v0 R.1 hA
    have eA : nA (vset (nv 34 μ) 0 4 (nI A)) = A := nA_vs R.1 hA
    have F2 := FM_vs (i := 4) (y := nI A) (j := 0) (by omega) R.2.2.1
    have ac : AC (vset (nv 34 μ) 0 4 (nI A)) (nv 34 μ) := ⟨fun j hj => funext fun i => vs_j hj, congrArg Int32.toNatClampNeg (vs_i (by decide)), congrArg Int32.toNatClampNeg (vs_i (by decide))⟩
    have hn := nlp_le (A := A) R.1
    obtain ⟨ν, e, F, H⟩ := c_find R.co h31
    refine Or.inr ⟨nI (pcn (bsf (nv 34 μ) A (nlp (nv 34 μ) A)) 20), ν, ?_, F, fun ρ M => ?_⟩
    · unfold f_X7_badWithout
      rw [R.co.N, needG (by omega) ha, Option.bind_some]
      show Option.bind (f_X2_find (gi μ 34 4 &&& (((1 : Int32) <<< (nI a &&& 31)) ^^^ (-1 : Int32))) μ) _ = _
      rw [R.co.A, show nI (nA (nv 34 μ)) &&& (((1 : Int32) <<< (nI a &&& 31)) ^^^ (-1 : Int32)) = nI A from hx, e, Option.bind_some, c_badSet R.1 H, Option.bind_some, bitc ν (fun i hi h20 => bsf_b _ (by omega) i hi (by omega)), Option.bind_some]
    · have M1 := M.si6 0
      have M3 : MO (vset (nv 34 μ) 0 4 (nI A)) (si (si ρ 60 6 0) 61 (22 + a) 0) := ⟨C2, DM_act R.1 M1.2.1 hA ha (x := 0) (fun q _ => by
          show gi (si (si ρ 60 6 0) 61 (22 + a) 0) 61 q = _
          rw [gi_si]
          by_cases c : q = 22 + a
          · rw [if_pos ⟨rfl, c⟩, if_pos c]
          · rw [if_neg (fun w => c w.2), if_neg c]; rfl) (by
          rw [hAb a (by omega), sb a (by omega), if_pos rfl]; rfl) (fun k hk hka => by rw [hAb k (by omega), sb k (by omega), if_neg hka]), by
        rw [show (si (si ρ 60 6 0) 61 (22 + a) 0).1 66 = (si ρ 60 6 0).1 66 from funext fun i => si1 (by decide)]; exact FM_vs (by omega) M1.2.2⟩
      obtain ⟨ν2, e2, G⟩ := m_badS M3
      rw [eA, ac.xnlp, ac.xbsf] at e2
      refine ⟨si ν2 61 (22 + a) (gi (si ρ 60 6 0) 61 (22 + a)), ?_, ⟨fun k i hr => ?_, fun k i hr => G.1.2 k i hr⟩, ?_⟩
      · unfold f_X8_badWithout
        rw [m_lineG M ha, Option.bind_some, failG, Option.bind_some]; simp only [bF, if_true]
        simp (disch := omega) only [n22, nI_add, gck, nI_clamp]
        rw [show (0 : Int32) = 0 from rfl, e2, Option.bind_some, m_bits, Option.bind_some]
      · show gi (si ν2 61 (22 + a) _) k i = _
        rw [gi_si]
        by_cases c : k = 61 ∧ i = 22 + a
        · rw [if_pos c]
          obtain ⟨c1, c2⟩ := c
          subst c1 c2
          exact gi_sik (by decide)
        · rw [if_neg c]
          refine (G.1.1 k i hr).trans ?_
          show gi (si (si ρ 60 6 0) 61 (22 + a) 0) k i = _
          rw [gi_si, if_neg c]
          exact (si60 0).1 k i hr
      · exact (gi_sik (by decide)).trans (G.2.trans ((gi_sik (by decide)).trans gi_sii))
end QN

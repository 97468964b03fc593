/-! bridges as the law finds them: a line is taken away -/
theorem ex_bits (f : Nat → Bool) : ∀ n, n ≤ 32 → ∃ S : Int32, ∀ i, i < 32 → bt S i = (decide (i < n) && f i)
  | 0, _ => ⟨0, fun i hi => by rw [b_0]; simp⟩
  | n + 1, hn => by
    obtain ⟨S, h⟩ := ex_bits f n (by omega)
    by_cases c : f n = true
    · refine ⟨S ||| ((1 : Int32) <<< (nI n &&& 31)), fun i hi => ?_⟩
      rw [b_or, h i hi, b_one n (by omega) i hi]
      by_cases e : i = n
      · subst e; rw [c]; simp
      · rw [decide_eq_false e, Bool.or_false, show decide (i < n + 1) = decide (i < n) from decide_eq_decide.mpr (by omega)]
    · refine ⟨S, fun i hi => ?_⟩
      rw [h i hi]
      by_cases e : i = n
      · subst e; rw [Bool.eq_false_iff.mpr c, Bool.and_false, Bool.and_false]
      · rw [show decide (i < n + 1) = decide (i < n) from decide_eq_decide.mpr (by omega)]
section BRI
variable {v : Nat → Nat → Int32} {ν μ : gM}
/-- the network without line k -/
noncomputable def vwo (v : Nat → Nat → Int32) (k : Nat) : Nat → Nat → Int32 := vset v 0 4 (nI ((nA v) &&& ((2 ^ nN v - 1) ^^^ 2 ^ k)))
theorem vwo_a {k : Nat} : (nA v) &&& ((2 ^ nN v - 1) ^^^ 2 ^ k) < 2 ^ nN v ∨ nN v ≤ k := by
  by_cases h : nN v ≤ k
  · exact Or.inr h
  · left
    refine Nat.and_lt_two_pow _ (Nat.xor_lt_two_pow ?_ (Nat.pow_lt_pow_right (by decide) (by omega)))
    have := Nat.two_pow_pos (nN v)
    omega
theorem vwo_C (C : CI v) {k : Nat} (hk : k < nN v) : CI (vwo v k) := CI_v0 C (vwo_a.resolve_right (by omega))
theorem vwo_A (C : CI v) {k : Nat} (hk : k < nN v) (j : Nat) : (nA (vwo v k)).testBit j = ((nA v).testBit j && decide (j ≠ k)) := by
  have hb := C.b
  have h1 := (vwo_a (v := v) (k := k)).resolve_right (by omega)
  have h31 : (nA v) &&& ((2 ^ nN v - 1) ^^^ 2 ^ k) < 2 ^ 31 := Nat.lt_trans h1 (Nat.pow_lt_pow_right (by decide) (by omega))
  have e : nA (vwo v k) = (nA v) &&& ((2 ^ nN v - 1) ^^^ 2 ^ k) := by
    show (vset v 0 4 _ 0 4).toNatClampNeg = _
    rw [vs_s, nI_clamp h31]
  rw [e, Nat.testBit_and, Nat.testBit_xor, Nat.testBit_two_pow_sub_one, Nat.testBit_two_pow]
  by_cases c : (nA v).testBit j = true
  · have hj : j < nN v := by
      rcases Nat.lt_or_ge j (nN v) with h | h
      · exact h
      · rw [tb_out C.b.2.2.2.2 h] at c; cases c
    rw [c, decide_eq_true hj]
    by_cases d : j = k
    · subst d; simp
    · have d2 : ¬ k = j := fun h => d h.symm
      simp [d, d2]
  · rw [Bool.eq_false_iff.mpr c]; simp
theorem vwo_AC (C : CI v) {k : Nat} : AC (vwo v k) v := by
  refine ⟨fun j hj => ?_, ?_, ?_⟩
  · funext i; exact vs_j hj
  · exact congrArg Int32.toNatClampNeg (vs_i (by decide))
  · exact congrArg Int32.toNatClampNeg (vs_i (by decide))
theorem vwo_Co (Co : CO v μ) {k : Nat} (hk : k < nN v) : CO (vwo v k) (si μ 34 4 (nI ((nA v) &&& ((2 ^ nN v - 1) ^^^ 2 ^ k)))) := by
  refine ⟨vwo_C Co.1 hk, ?_⟩
  have h := nv_si (μ := μ) (j := 0) (i := 4) (x := nI ((nA v) &&& ((2 ^ nN v - 1) ^^^ 2 ^ k))) (by decide)
  rw [Co.2] at h
  exact h
theorem l_br (Co : CO v μ) {k : Nat} (hk : k < nN v) (hA : (nA v).testBit k = true) {z : Mx} (hz : z = dMx v (nI k)) : (z (fs v k) (sn v k) < 1000000) ↔ inLp v (nA v) (nlp v (nA v)) k = true := by
  have C := Co.1
  have hb := C.b
  have hg := C.g k hk
  have Cu := vwo_C C hk
  have H := vwo_AC C (k := k)
  have hpl : ∀ j, j < nN v → ((nA (vwo v k)).testBit j = true ↔ (nA v).testBit j = true ∧ nI j ≠ nI k) := fun j hj => by
    rw [vwo_A C hk, Bool.and_eq_true, decide_eq_true_iff]
    exact and_congr_right (fun _ => not_congr (nI_eq (by omega) (by omega)).symm)
  obtain ⟨N, G, hN, T⟩ := dMx_N Cu H hpl
  rw [← hz] at G
  have hP := H.2.2
  have hN2 := H.2.1
  rw [← hP] at T
  have nw : ∀ p, p < nP v → (N (fs v k) p < 1000000 ↔ ∃ d, wk (vwo v k) (fs v k) p d) := fun p hp => nr_wk (vwo_Co Co hk) hN T (by rw [hP]; exact hg.1) (by rw [hP]; exact hp)
  obtain ⟨S, hS⟩ := ex_bits (fun p => decide (N (fs v k) p < 1000000)) (nP v) (by omega)
  have hS2 : ∀ p, p < nP v → (bt S p = true ↔ N (fs v k) p < 1000000) := fun p hp => by
    rw [hS p (by omega), decide_eq_true hp, Bool.true_and, decide_eq_true_iff]
  have I : isP v (nI k) (fs v k) S := by
    refine ⟨(hS2 _ hg.1).mpr (by rw [hN.1 _ (by rw [hP]; exact hg.1)]; decide), fun j hj hp => ?_, fun Q hQ hq i hi hbi => ?_⟩
    · have hgj := C.g j hj
      have hl := wk_line Cu (k := j) (by rw [hN2]; exact hj) ((hpl j hj).mpr hp)
      rw [H.f, H.s] at hl
      refine Bool.eq_iff_iff.mpr ?_
      rw [hS2 _ hgj.1, hS2 _ hgj.2, nw _ hgj.1, nw _ hgj.2]
      exact ⟨fun ⟨d, hd⟩ => ⟨_, wk_t hd hl⟩, fun ⟨d, hd⟩ => ⟨_, wk_t hd (wk_s Cu hl)⟩⟩
    · rw [hS i hi, Bool.and_eq_true, decide_eq_true_iff, decide_eq_true_iff] at hbi
      obtain ⟨d, n, hd⟩ := (nw i hbi.1).mp hbi.2
      have go : ∀ n q d, wkn (vwo v k) (fs v k) n q d → Q q := fun n => by
        induction n with
        | zero => intro q d h; rw [h.1]; exact hq
        | succ n ih =>
          rintro q d ⟨j, hj, ht, e, he, -⟩
          have h1 := ih _ _ he
          have hjv : j < nN v := by rw [← hN2]; exact hj
          have h2 := hQ j hjv ((hpl j hjv).mp ht.1)
          rcases ends ht with ⟨x, y⟩ | ⟨x, y⟩
          · rw [x, H.f] at h1
            rw [y, H.s]; exact h2.mp h1
          · rw [x, H.s] at h1
            rw [y, H.f]; exact h2.mpr h1
      exact go n i d hd
  obtain ⟨g1, g2⟩ := G (fs v k) (sn v k) hg.1 hg.2
  rw [← br_k C hk hA I, hS2 _ hg.2, g1, show (1000000 : Int32) = nI 1000000 from rfl, nI_ltI (by omega) (by decide)]
theorem q_bridges (Co : CO v μ) : ∃ μ', f_X7_bridges μ = some (brs v (nA v) (nN v), μ') ∧ Fr μ μ' := by
  obtain ⟨A, hA⟩ : ∃ A, A = nA v := ⟨_, rfl⟩
  obtain ⟨ν, e, F, H⟩ := c_findA Co
  have C := Co.1
  have hA4 := (Co.fr F).A
  rw [← hA] at H hA4 ⊢
  have hb := C.b
  have h31 : A < 2 ^ 31 := by rw [hA]; exact C.A31
  have hn := nlp_le (A := A) C
  refine ⟨ν, ?_, F⟩
  have eq : cbr v A (nlp v A) = brs v A (nN v) := b_ext (fun b hb2 => by
    rw [cbr_b h31 hb2, brs_b hb2 _ (by omega)]
    by_cases d : b < nN v
    · rw [decide_eq_true d, Bool.true_and]
    · rw [hA, tb_out C.b.2.2.2.2 (by omega), Bool.false_and, Bool.and_false])
  have g : gloop (fun t => b_X7_bridges_28 t.1 t.2 ν) gFuel (cbr v A 0, nI 0) = some (cbr v A (nlp v A)) := by
    refine gloop_run (fun i => (cbr v A i, nI i)) (nlp v A) (fun i hi => ?_) ?_ gFuel (by unfold gFuel; omega)
    · show b_X7_bridges_28 (cbr v A i) (nI i) ν = some (Sum.inl (cbr v A i &&& (wset (XL v A i) ^^^ (-1 : Int32)), nI (i + 1)))
      unfold b_X7_bridges_28
      rw [H.2.1, if_neg (nI_ge hi (by omega)), gck (by omega) (by decide), nI_clamp (by omega), (H.at hi).2.1, nI_1]
    · show b_X7_bridges_28 (cbr v A (nlp v A)) (nI (nlp v A)) ν = _
      unfold b_X7_bridges_28
      rw [H.2.1, if_pos (nI_le (Nat.le_refl _) (by omega))]
  unfold f_X7_bridges
  rw [e, Option.bind_some, hA4, show gloop (fun t => b_X7_bridges_28 t.1 t.2 ν) gFuel (nI A, (0 : Int32)) = _ from g, eq]
  rfl
theorem l_229 (Co : CO v μ) (M : LM v ν) (x2 : Int32) (z : Mx) : gloop (fun t => b_L_areWays_229 x2 z t.1 t.2 ν μ) 12 ((0 : Int32), (0 : Int32)) = some (brs v (nA v) (nN v)) := by
  have C := Co.1
  have hb := M.b
  refine gloop_run (fun i => (brs v (nA v) i, nI i)) (nN v) (fun k hk => ?_) ?_ 12 (by omega)
  · show b_L_areWays_229 x2 z (brs v (nA v) k) (nI k) ν μ = some (.inl ((if (nA v).testBit k = true ∧ inLp v (nA v) (nlp v (nA v)) k = false then brs v (nA v) k ||| ((1 : Int32) <<< (nI k &&& 31)) else brs v (nA v) k), nI (k + 1)))
    unfold b_L_areWays_229
    have or0 : ∀ x : Int32, x ||| 0 = x := fun x => b_ext (fun i hi => by rw [b_or, b_0, Bool.or_false])
    have hg := C.g k hk
    rw [M.N, if_neg (nI_ge hk (by omega)), M.ll]
    simp (disch := omega) only [gck, nI_clamp]
    rw [nI_1, or0]
    by_cases c : (nA v).testBit k = true
    · rw [if_neg (fun q => (M.a0 hk).mp q c), l_dist C M, Option.bind_some, M.f C hk, M.s C hk, M.lp]
      simp (disch := omega) only [gck, nI_clamp]
      have h := l_br Co hk c (z := dMx v (nI k)) rfl
      by_cases d : inLp v (nA v) (nlp v (nA v)) k = true
      · rw [if_pos (h.mpr d), if_neg (by rw [d]; simp)]
      · rw [if_neg (fun q => d (h.mp q)), if_pos ⟨c, Bool.eq_false_iff.mpr d⟩]
    · rw [if_pos ((M.a0 hk).mpr c), if_neg (fun q => c q.1)]
  · show b_L_areWays_229 x2 z (brs v (nA v) (nN v)) (nI (nN v)) ν μ = _
    unfold b_L_areWays_229
    rw [M.N, if_pos (nI_le (Nat.le_refl _) (by omega))]
theorem l_ways (Co : CO v μ) (M : LM v ν) : ∃ μ', f_L_areWays ν μ = some (true, μ') ∧ Fr μ μ' := by
  have C := Co.1
  have hb := M.b
  obtain ⟨N, G, hN, T⟩ := dMx_N (v := v) C ⟨fun _ _ => rfl, rfl, rfl⟩ (w := -1) (fun k hk => ⟨fun h => ⟨h, fun w => m1_ne (show k < 2 ^ 31 by omega) w⟩, fun h => h.1⟩)
  obtain ⟨μ1, e1, F1⟩ := l_10 M hN T G Co
  obtain ⟨μ2, e2, F2⟩ := q_parts (Co.fr F1)
  obtain ⟨μ3, e3, F3⟩ := q_bridges ((Co.fr F1).fr F2)
  refine ⟨μ3, ?_, F1.tr (F2.tr F3)⟩
  unfold f_L_areWays
  rw [l_dist C M, Option.bind_some, e1, Option.bind_some]
  show Option.bind (gloop (fun t => b_L_areWays_229 _ _ t.1 t.2 ν μ1) 12 ((0 : Int32), (0 : Int32))) _ = _
  rw [l_229 (Co.fr F1) M, Option.bind_some, e2, Option.bind_some, if_pos rfl, e3, Option.bind_some, if_pos rfl]
end BRI

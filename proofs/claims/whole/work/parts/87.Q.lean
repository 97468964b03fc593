/-! what the loops answer (33 34 35 36 37) -/
section QL
variable {v : Nat → Nat → Int32} {μ : gM} {A : Nat}
noncomputable def lpkF (A : Nat) (b : Int32) (N i : Nat) : Nat := if h : i < lc A b N then Classical.choose (lc_ex N h) else 0
noncomputable def lpk (v : Nat → Nat → Int32) (A i : Nat) : Nat := lpkF A (tbr v A) (nN v) i
theorem lpk_s {i : Nat} (h : i < nlp v A) : lpk v A i < nN v ∧ lpB A (tbr v A) (lpk v A i) ∧ lc A (tbr v A) (lpk v A i) = i := by
  have h : i < lc A (tbr v A) (nN v) := h
  unfold lpk lpkF
  rw [dif_pos h]
  exact Classical.choose_spec (lc_ex (nN v) h)
noncomputable def XL (v : Nat → Nat → Int32) (A i : Nat) : List (Nat × Nat) := lway v A (lpk v A i)
theorem lway_len (C : CI v) {k : Nat} (hk : k < nN v) (hA : A.testBit k = true) : (lway v A k).length ≤ 16 := by
  have hb := C.b
  have G : ∀ n h g U R, WI v A k h g U R → 16 ≤ U.length + R.length + n → (lway v A k).length ≤ 16 := by
    intro n
    induction n with
    | zero => intro h g U R W hn; have := WI_room W; omega
    | succ n ih =>
      intro h g U R W hn
      by_cases c : h = g
      · subst c
        have := WI_room W
        rw [← WI_e W, List.length_cons, List.length_append, List.length_reverse]
        omega
      · by_cases d : dpv v A g ≤ dpv v A h
        · obtain ⟨l, l1, l2, l3, l4, l5, W2⟩ := WI_up C W c d
          exact ih _ _ _ _ W2 (by rw [List.length_append, List.length_singleton]; omega)
        · obtain ⟨l, l1, l2, l3, l4, l5, W2⟩ := WI_dn C W c d
          exact ih _ _ _ _ W2 (by rw [List.length_append, List.length_singleton]; omega)
  exact G 16 _ _ _ _ (WI_0 C hk hA) (by omega)
theorem XL_m (C : CI v) {i : Nat} (h : i < nlp v A) : (∀ x, x ∈ XL v A i → x.1 < nN v) ∧ (XL v A i).length ≤ 16 := by
  obtain ⟨a, b, c⟩ := lpk_s h
  exact ⟨fun x hx => (lway_m C a b.1 hx).1, lway_len C a b.1⟩
theorem wrs_b (C : CI v) : ∀ L : List (Nat × Nat), (∀ x, x ∈ L → x.1 < nN v) → ∀ (s : Int32) (B : Nat), s.toInt.natAbs ≤ B → B + 32800000 * L.length < 2147483647 → (List.foldl (fun s (x : Nat × Nat) => s + rfr v x.2 x.1) s L).toInt.natAbs ≤ B + 32800000 * L.length
  | [], _, s, B, h, _ => h
  | x :: L, hL, s, B, h, hB => by
    rw [List.length_cons] at hB ⊢
    have hr := rfr_b C (hL x List.mem_cons_self) x.2
    have e : (s + rfr v x.2 x.1).toInt = s.toInt + (rfr v x.2 x.1).toInt := by
      rw [Int32.toInt_add, Int.bmod_eq_of_le (by omega) (by omega)]
    have := wrs_b C L (fun y hy => hL y (List.mem_cons_of_mem _ hy)) (s + rfr v x.2 x.1) (B + 32800000) (by rw [e]; omega) (by omega)
    show (List.foldl _ (s + rfr v x.2 x.1) L).toInt.natAbs ≤ _
    omega
theorem wrs_B (C : CI v) {L : List (Nat × Nat)} (h : ∀ x, x ∈ L → x.1 < nN v) (hl : L.length ≤ 16) : (wrs v L).toInt.natAbs ≤ 524800000 := by
  have := wrs_b C L h 0 0 (by decide) (by omega)
  have e : wrs v L = List.foldl (fun s (x : Nat × Nat) => s + rfr v x.2 x.1) 0 L := rfl
  rw [e]; omega
noncomputable def wE (v : Nat → Nat → Int32) (A i : Nat) : Int := ((wrs v (XL v A i)).toInt.natAbs : Int) - (lmt v (XL v A i)).toInt
theorem lmt_t (C : CI v) {i : Nat} (h : i < nlp v A) : 0 ≤ (lmt v (XL v A i)).toInt ∧ (lmt v (XL v A i)).toInt < 524288 := by
  obtain ⟨h1, h2⟩ := XL_m C h
  obtain ⟨r, r1, r2, r3, r4⟩ := lmt_c C h1 h2
  rw [r2, nI_toInt (by omega)]; omega
theorem FD.at {ν : gM} (H : FD v A ν) {i : Nat} (hi : i < nlp v A) : gi ν 13 i = nI (lpk v A i) ∧ gi ν 14 i = wset (XL v A i) ∧ gi ν 15 i = nI (wln v (XL v A i)) ∧ gi ν 16 i = wrs v (XL v A i) ∧ gi ν 17 i = lmt v (XL v A i) := by
  obtain ⟨a, b, c⟩ := lpk_s hi
  have := H.2.2 _ a b
  rw [c] at this
  exact this
theorem nlp_le (C : CI v) : nlp v A ≤ 20 := by
  have h1 : nlp v A ≤ nN v := lc_le A (tbr v A) (nN v)
  have hb := C.b
  omega
theorem c_exc (C : CI v) {ν : gM} (H : FD v A ν) {i : Nat} (hi : i < nlp v A) : ∃ q, f_X2_excess (nI i) ν = some q ∧ q.toInt = wE v A i := by
  obtain ⟨h1, h2, h3, h4, h5⟩ := H.at hi
  have hn := nlp_le (A := A) C
  have hm := XL_m C hi
  have hw := wrs_B C hm.1 hm.2
  have ht := lmt_t C hi
  have ei : (iabs (wrs v (XL v A i))).toInt = ((wrs v (XL v A i)).toInt.natAbs : Int) := iabs_toInt (by omega)
  refine ⟨iabs (wrs v (XL v A i)) - lmt v (XL v A i), ?_, ?_⟩
  · unfold f_X2_excess
    simp (disch := omega) only [gck, nI_clamp]
    rw [h4, h5]
  · unfold wE
    rw [Int32.toInt_sub, ei, Int.bmod_eq_of_le (by omega) (by omega)]
theorem m_loopI (M : MO v μ) (H : LL v μ) {i : Nat} (hi : i < nlp v (nA v)) : ∃ ν, f_X8_layLoop (nI i) μ = some ν ∧ LF μ ν ∧ MW v (XL v (nA v) i) ν := by
  obtain ⟨a, b, c⟩ := lpk_s hi
  obtain ⟨ν, h1, h2, h3⟩ := m_layLoop M H a b
  rw [c] at h1
  exact ⟨ν, h1, h2, h3⟩
theorem m_allow (M : MO v μ) {L : List (Nat × Nat)} (h : ∀ x, x ∈ L → x.1 < nN v) (hl : L.length ≤ 16) (H : MW v L μ) : f_X8_allowedNow μ = some (lmt v L) := by
  obtain ⟨r, r1, r2, r3, r4⟩ := lmt_c M.1 h hl
  unfold f_X8_allowedNow
  simp only [gckb (show gIn (0 : Int32) 703 by decide)]
  rw [show (0 : Int32).toNatClampNeg = 0 by decide, show gi μ 61 0 = v 1 0 from M.2.1.1 0 (by decide), H.2.2.2, X_e M.1 L (lm_b M.1 h hl).1, r4, Option.bind_some, lN_i, r2]
theorem m_isBad (M : MO v μ) (H : LL v μ) {i : Nat} (hi : i < nlp v (nA v)) : ∃ ν, f_X8_isBad (nI i) μ = some (decide (0 < wE v (nA v) i), ν) ∧ LF μ ν ∧ MW v (XL v (nA v) i) ν := by
  obtain ⟨ν, h1, h2, h3⟩ := m_loopI M H hi
  have hm := XL_m M.1 hi
  refine ⟨ν, ?_, h2, h3⟩
  obtain ⟨y, y1, y2⟩ := size32 (wrs v (XL v (nA v) i)) ν
  unfold f_X8_isBad
  rw [h1, Option.bind_some, h3.2.2.1, y1, Option.bind_some, m_allow (M.fr h2.fr) hm.1 hm.2 h3, Option.bind_some]
  by_cases c : 0 < wE v (nA v) i
  · rw [decide_eq_true c]
    refine if_neg (fun w => ?_)
    rw [Int64.le_iff_toInt_le, y2, Int32.toInt_toInt64] at w
    unfold wE at c; omega
  · rw [decide_eq_false c]
    refine if_pos ?_
    rw [Int64.le_iff_toInt_le, y2, Int32.toInt_toInt64]
    unfold wE at c; omega
theorem c_findA (C : CO v μ) : ∃ ν, f_X2_find (gi μ 34 4) μ = some ν ∧ Fr μ ν ∧ FD v (nA v) ν := by
  rw [C.A]
  exact c_find C C.1.A31
theorem c_needL (C : CO v μ) (s1 : Int32) : ∃ ν, Fr μ ν ∧ FD v (nA v) ν ∧ (((s1 < 0 ∨ nI (nlp v (nA v)) ≤ s1) ∧ f_X7_needLoop s1 μ = some (none, ν)) ∨ ∃ i, i < nlp v (nA v) ∧ s1 = nI i ∧ f_X7_needLoop s1 μ = some (some (), ν)) := by
  obtain ⟨ν, e, F, H⟩ := c_findA C
  have hn := nlp_le (A := nA v) C.1
  refine ⟨ν, F, H, ?_⟩
  unfold f_X7_needLoop
  rw [e, Option.bind_some, H.2.1]
  rcases ix3 s1 (n := nlp v (nA v)) (by omega) with h | ⟨i, hi, rfl⟩
  · left; exact ⟨h, by rw [needB (by omega) h]; rfl⟩
  · right; exact ⟨i, hi, rfl, by rw [needG (by omega) hi]; rfl⟩
theorem m_failsB (M : MO v μ) {s1 : Int32} (h : s1 < 0 ∨ nI (nlp v (nA v)) ≤ s1) : ∃ ν, f_X8_failsLoop s1 μ = some (true, ν) ∧ Fr μ ν ∧ gi ν 60 6 = 1 := by
  obtain ⟨ν, e, F, L⟩ := m_layL M
  have hn := nlp_le (A := nA v) M.1
  refine ⟨si ν 60 6 1, ?_, F.1.tr (si60 1), gi_sii⟩
  unfold f_X8_failsLoop
  rw [e, Option.bind_some, L.2.1, rgB (by omega) h]; rfl
theorem m_failsG (M : MO v μ) {i : Nat} (hi : i < nlp v (nA v)) : ∃ ν, f_X8_failsLoop (nI i) μ = some (false, ν) ∧ Fr μ ν ∧ gi ν 60 6 = 0 ∧ LL v ν := by
  obtain ⟨ν, e, F, L⟩ := m_layL M
  have hn := nlp_le (A := nA v) M.1
  refine ⟨si ν 60 6 0, ?_, F.1.tr (si60 0), gi_sii, ⟨⟨fun p hp => (gi_sik (by decide)).trans (L.1.1 p hp), fun p hp => (gi_sik (by decide)).trans (L.1.2.1 p hp), (gi_sij (by decide)).trans L.1.2.2⟩, (gi_sij (by decide)).trans L.2.1, fun k hk hp => (gi_sik (by decide)).trans (L.2.2 k hk hp)⟩⟩
  unfold f_X8_failsLoop
  rw [e, Option.bind_some, L.2.1, rgG (by omega) hi]; rfl
/-- one loop asked for -/
theorem loopW {s1 : Int32} {fC : Option (Option Int32 × gM)} {fM : gM → Option (Int32 × gM)} (R : Rel μ)
    (hB : ∀ ν, f_X7_needLoop s1 μ = some (none, ν) → fC = some (none, ν))
    (hBM : ∀ ν ρ, f_X8_failsLoop s1 ν = some (true, ρ) → ∃ w, fM ν = some (w, ρ))
    (hG : ∀ i ν, i < nlp (nv 34 μ) (nA (nv 34 μ)) → s1 = nI i → f_X7_needLoop s1 μ = some (some (), ν) → Fr μ ν → FD (nv 34 μ) (nA (nv 34 μ)) ν → ∃ w μ1, fC = some (some w, μ1) ∧ Fr ν μ1 ∧ ∀ ρ ρ2, MO (nv 34 μ) ρ → LL (nv 34 μ) ρ → f_X8_failsLoop s1 ρ2 = some (false, ρ) → ∃ ρ3, fM ρ2 = some (w, ρ3) ∧ LF ρ ρ3) : simOK μ (caseI (wrapU fC) fM) := by
  refine workI (fC := fC) (fM := fM) R ?_
  obtain ⟨ν, F, H, h | ⟨i, hi, hs, h⟩⟩ := c_needL R.co s1
  · have M1 : MO (nv 34 μ) ν := by
      have := (R.fr F).mo
      rwa [Fr_nv F] at this
    obtain ⟨ρ, r1, r2, r3⟩ := m_failsB M1 h.1
    obtain ⟨w, hw⟩ := hBM _ _ r1
    exact Or.inl ⟨ν, hB ν h.2, F, w, ρ, hw, r2, r3⟩
  · obtain ⟨w, μ1, w1, w2, w3⟩ := hG i ν hi hs h F H
    refine Or.inr ⟨w, μ1, w1, F.tr w2, fun ρ2 M => ?_⟩
    obtain ⟨ρ, r1, r2, r3, r4⟩ := m_failsG M hi
    rw [← hs] at r1
    obtain ⟨ρ3, q1, q2⟩ := w3 ρ ρ2 (M.fr r2) r4 r1
    exact ⟨ρ3, q1, r2.tr q2.fr, q2.fq.2.trans r3⟩
theorem sim_34 (s1 : Int32) (R : Rel μ) : simOK μ (f_case_34 s1 μ) := by
  refine loopW (s1 := s1) (fC := f_X7_loopLength s1 μ) (fM := f_X8_loopLength s1) R (fun ν h => ?_) (fun ν ρ h => ⟨0, ?_⟩) (fun i ν hi hs h F H => ?_)
  · unfold f_X7_loopLength; rw [h]; rfl
  · unfold f_X8_loopLength; rw [h]; rfl
  · subst hs
    have hn := nlp_le (A := nA (nv 34 μ)) R.1
    refine ⟨nI (wln (nv 34 μ) (XL (nv 34 μ) (nA (nv 34 μ)) i)), ν, ?_, Fr.rf ν, fun ρ ρ2 M L hf => ?_⟩
    · unfold f_X7_loopLength; rw [h, Option.bind_some]
      show gchk (gIn (nI i) 20) _ = _
      rw [gck (by omega) (by decide), nI_clamp (by omega), (H.at hi).2.2.1]
    · obtain ⟨ρ3, e1, e2, e3⟩ := m_loopI M L hi
      refine ⟨ρ3, ?_, e2⟩
      unfold f_X8_loopLength; rw [hf, Option.bind_some]; simp only [bF, if_true]
      rw [e1, Option.bind_some, e3.2.2.2]
theorem sim_35 (s1 : Int32) (R : Rel μ) : simOK μ (f_case_35 s1 μ) := by
  refine loopW (s1 := s1) (fC := f_X7_misclosure s1 μ) (fM := f_X8_misclosure s1) R (fun ν h => ?_) (fun ν ρ h => ⟨0, ?_⟩) (fun i ν hi hs h F H => ?_)
  · unfold f_X7_misclosure; rw [h]; rfl
  · unfold f_X8_misclosure; rw [h]; rfl
  · subst hs
    have hn := nlp_le (A := nA (nv 34 μ)) R.1
    refine ⟨wrs (nv 34 μ) (XL (nv 34 μ) (nA (nv 34 μ)) i), ν, ?_, Fr.rf ν, fun ρ ρ2 M L hf => ?_⟩
    · unfold f_X7_misclosure; rw [h, Option.bind_some]
      show gchk (gIn (nI i) 20) _ = _
      rw [gck (by omega) (by decide), nI_clamp (by omega), (H.at hi).2.2.2.1]
    · obtain ⟨ρ3, e1, e2, e3⟩ := m_loopI M L hi
      refine ⟨ρ3, ?_, e2⟩
      unfold f_X8_misclosure; rw [hf, Option.bind_some]; simp only [bF, if_true]
      rw [e1, Option.bind_some, e3.2.2.1]
theorem sim_36 (s1 : Int32) (R : Rel μ) : simOK μ (f_case_36 s1 μ) := by
  refine loopW (s1 := s1) (fC := f_X7_allowed s1 μ) (fM := f_X8_allowed s1) R (fun ν h => ?_) (fun ν ρ h => ⟨0, ?_⟩) (fun i ν hi hs h F H => ?_)
  · unfold f_X7_allowed; rw [h]; rfl
  · unfold f_X8_allowed; rw [h]; rfl
  · subst hs
    have hn := nlp_le (A := nA (nv 34 μ)) R.1
    have hm := XL_m R.1 hi
    refine ⟨lmt (nv 34 μ) (XL (nv 34 μ) (nA (nv 34 μ)) i), ν, ?_, Fr.rf ν, fun ρ ρ2 M L hf => ?_⟩
    · unfold f_X7_allowed; rw [h, Option.bind_some]
      show gchk (gIn (nI i) 20) _ = _
      rw [gck (by omega) (by decide), nI_clamp (by omega), (H.at hi).2.2.2.2]
    · obtain ⟨ρ3, e1, e2, e3⟩ := m_loopI M L hi
      refine ⟨ρ3, ?_, e2⟩
      unfold f_X8_allowed; rw [hf, Option.bind_some]; simp only [bF, if_true]
      rw [e1, Option.bind_some, m_allow (M.fr e2.fr) hm.1 hm.2 e3, Option.bind_some]
theorem sim_33 (s1 s2 : Int32) (R : Rel μ) : simOK μ (f_case_33 s1 s2 μ) := by
  refine loopW (s1 := s1) (fC := f_X7_loopLine s1 s2 μ) (fM := f_X8_loopLine s1 s2) R (fun ν h => ?_) (fun ν ρ h => ⟨0, ?_⟩) (fun i ν hi hs h F H => ?_)
  · unfold f_X7_loopLine; rw [h]; rfl
  · unfold f_X8_loopLine; rw [h]; rfl
  · subst hs
    have hn := nlp_le (A := nA (nv 34 μ)) R.1
    have hm := XL_m R.1 hi
    obtain ⟨a, b, c⟩ := lpk_s hi
    obtain ⟨ν2, g1, g2, g3, g4, g5⟩ := c_walk (R.co.fr F) H.1 a b.1
    have cl : f_X7_loopLine (nI i) s2 μ = Option.bind (f_X7_isIndex s2 (nI (XL (nv 34 μ) (nA (nv 34 μ)) i).length) ν2) (fun q6 => if ((b2i q6) = 0) then some ((some (-1 : Int32)), ν2) else gchk (gIn s2 17) (some ((some (gi ν2 18 s2.toNatClampNeg)), ν2))) := by
      unfold f_X7_loopLine; rw [h, Option.bind_some]
      show gchk (gIn (nI i) 20) _ = _
      rw [gck (by omega) (by decide), nI_clamp (by omega), (H.at hi).1, g1, Option.bind_some, g4]
      rfl
    have ml : ∀ ρ ρ2 ρ3, f_X8_failsLoop (nI i) ρ2 = some (false, ρ) → f_X8_layLoop (nI i) ρ = some ρ3 → f_X8_loopLine (nI i) s2 ρ2 = Option.bind (f_X8_inRange s2 (0 : Int32) ((gi ρ3 60 31) - (1 : Int32)) ρ3) (fun q4 => if ((b2i q4) = 0) then some ((-1 : Int32), ρ3) else gchk (gIn s2 20) (some ((gi ρ3 74 s2.toNatClampNeg), ρ3))) := fun ρ ρ2 ρ3 hf e1 => by
      unfold f_X8_loopLine; rw [hf, Option.bind_some]; simp only [bF, if_true]
      rw [e1, Option.bind_some]
    rcases ix3 s2 (n := (XL (nv 34 μ) (nA (nv 34 μ)) i).length) (by omega) with h2 | ⟨j, hj, rfl⟩
    · refine ⟨-1, ν2, ?_, g2.fr, fun ρ ρ2 M L hf => ?_⟩
      · rw [cl, ixB (by omega) h2]; rfl
      · obtain ⟨ρ3, e1, e2, e3⟩ := m_loopI M L hi
        refine ⟨ρ3, ?_, e2⟩
        rw [ml ρ ρ2 ρ3 hf e1, e3.2.1, rgB (by omega) h2]; rfl
    · obtain ⟨x, hx⟩ : ∃ x, (XL (nv 34 μ) (nA (nv 34 μ)) i)[j]? = some x := ⟨_, List.getElem?_eq_getElem hj⟩
      refine ⟨enc (nv 34 μ) x, ν2, ?_, g2.fr, fun ρ ρ2 M L hf => ?_⟩
      · rw [cl, ixG (by omega) hj, Option.bind_some]
        show gchk (gIn (nI j) 17) _ = _
        rw [gck (by omega) (by decide), nI_clamp (by omega), g3 j x hx]
      · obtain ⟨ρ3, e1, e2, e3⟩ := m_loopI M L hi
        refine ⟨ρ3, ?_, e2⟩
        rw [ml ρ ρ2 ρ3 hf e1, e3.2.1, rgG (by omega) hj, Option.bind_some]
        show gchk (gIn (nI j) 20) _ = _
        rw [gck (by omega) (by decide), nI_clamp (by omega), e3.1 j x hx]
/-- the loops that fail, as a set -/
noncomputable def bsf (v : Nat → Nat → Int32) (A : Nat) : Nat → Int32
  | 0 => 0
  | i + 1 => if 0 < wE v A i then bsf v A i ||| ((1 : Int32) <<< (nI i &&& 31)) else bsf v A i
theorem c_badSet (C : CI v) {ν : gM} (H : FD v A ν) : f_X2_badSet ν = some (bsf v A (nlp v A)) := by
  have hn := nlp_le (A := A) C
  have g : gloop (fun t => b_X2_badSet_4 t.1 t.2 ν) gFuel (bsf v A 0, nI 0) = some (bsf v A (nlp v A)) := by
    refine gloop_run (fun i => (bsf v A i, nI i)) (nlp v A) (fun i hi => ?_) ?_ gFuel (by unfold gFuel; omega)
    · show b_X2_badSet_4 (bsf v A i) (nI i) ν = some (Sum.inl (bsf v A (i + 1), nI (i + 1)))
      obtain ⟨q, q1, q2⟩ := c_exc C H hi
      unfold b_X2_badSet_4
      rw [H.2.1, if_neg (nI_ge hi (by omega)), q1, Option.bind_some, nI_1]
      show _ = some (Sum.inl ((if 0 < wE v A i then bsf v A i ||| ((1 : Int32) <<< (nI i &&& 31)) else bsf v A i), nI (i + 1)))
      by_cases c : 0 < wE v A i
      · rw [if_pos c]
        refine if_neg (fun w => ?_)
        rw [Int32.le_iff_toInt_le, q2] at w
        have : (0 : Int32).toInt = 0 := by decide
        omega
      · rw [if_neg c]
        refine if_pos ?_
        rw [Int32.le_iff_toInt_le, q2]
        have : (0 : Int32).toInt = 0 := by decide
        omega
    · show b_X2_badSet_4 (bsf v A (nlp v A)) (nI (nlp v A)) ν = _
      unfold b_X2_badSet_4
      rw [H.2.1, if_pos (nI_le (Nat.le_refl _) (by omega))]
  unfold f_X2_badSet
  rw [show gloop (fun t => b_X2_badSet_4 t.1 t.2 ν) gFuel ((0 : Int32), (0 : Int32)) = _ from g]
  rfl
theorem m_badS (M : MO v μ) : ∃ ν, f_X8_bad μ = some (bsf v (nA v) (nlp v (nA v)), ν) ∧ Fq μ ν := by
  have hn := nlp_le (A := nA v) M.1
  obtain ⟨ν1, e1, F1, L1⟩ := m_layL M
  obtain ⟨⟨x, ν2⟩, h1, h2, F2⟩ := gloop_rel (body := fun t => b_X8_bad_8 t.1 t.2.1 t.2.2) (fun i t => t.1 = bsf v (nA v) i ∧ t.2.1 = nI i ∧ LF ν1 t.2.2 ∧ LL v t.2.2) (fun r => r.1 = bsf v (nA v) (nlp v (nA v)) ∧ LF ν1 r.2) (nlp v (nA v)) (fun i t hi hR => by
    obtain ⟨x, y, ν⟩ := t
    obtain ⟨a1, a2, F, L⟩ := hR
    have a1 : x = bsf v (nA v) i := a1
    have a2 : y = nI i := a2
    subst a1 a2
    replace F : LF ν1 ν := F
    replace L : LL v ν := L
    show (∃ t, b_X8_bad_8 (bsf v (nA v) i) (nI i) ν = _ ∧ _) ∨ ∃ r, b_X8_bad_8 _ _ ν = _ ∧ _
    unfold b_X8_bad_8
    rw [L.2.1]
    by_cases c : i < nlp v (nA v)
    · left
      obtain ⟨ν3, g1, g2, g3⟩ := m_isBad (M.fr (F1.1.tr F.fr)) L c
      rw [if_neg (nI_ge c (by omega)), g1, Option.bind_some, nI_1]
      have hb : bsf v (nA v) (i + 1) = if 0 < wE v (nA v) i then bsf v (nA v) i ||| ((1 : Int32) <<< (nI i &&& 31)) else bsf v (nA v) i := rfl
      by_cases d : 0 < wE v (nA v) i
      · rw [decide_eq_true d, if_neg (show ¬ b2i true = 0 by decide)]
        exact ⟨_, rfl, ⟨by rw [hb, if_pos d], rfl, F.tr g2, L.lf g2⟩, c⟩
      · rw [decide_eq_false d, if_pos (show b2i false = 0 from rfl), Int32.or_zero]
        exact ⟨_, rfl, ⟨by rw [hb, if_neg d], rfl, F.tr g2, L.lf g2⟩, c⟩
    · right
      have e : i = nlp v (nA v) := by omega
      subst e
      exact ⟨_, if_pos (nI_le (Nat.le_refl _) (by omega)), rfl, F⟩) (by unfold gFuel; omega) (s0 := (0, nI 0, ν1)) ⟨rfl, rfl, LF.rf ν1, L1⟩
  have h2 : x = bsf v (nA v) (nlp v (nA v)) := h2
  subst h2
  refine ⟨ν2, ?_, F1.tr F2.fq⟩
  unfold f_X8_bad
  rw [e1, Option.bind_some, show gloop (fun t => b_X8_bad_8 t.1 t.2.1 t.2.2) gFuel ((0 : Int32), (0 : Int32), ν1) = _ from h1]
  rfl
theorem sim_37 (R : Rel μ) : simOK μ (f_case_37 μ) := by
  refine workE (fC := f_X7_badLoops μ) (fM := f_X8_badLoops) R ?_
  obtain ⟨ν, e, F, H⟩ := c_findA R.co
  refine ⟨bsf (nv 34 μ) (nA (nv 34 μ)) (nlp (nv 34 μ) (nA (nv 34 μ))), ν, ?_, F, fun ρ M => ?_⟩
  · unfold f_X7_badLoops
    rw [e, Option.bind_some, c_badSet R.1 H]; rfl
  · obtain ⟨ν2, e2, F2⟩ := m_badS (M.si6 0)
    refine ⟨ν2, ?_, (si60 0).tr F2.1⟩
    unfold f_X8_badLoops
    rw [e2]; rfl
end QL

section QR
/-! square roots, the class's loops -/
theorem sq_u {X r s : Nat} (h1 : r * r ≤ X) (h2 : X < (r + 1) * (r + 1)) (h3 : s * s ≤ X) (h4 : X < (s + 1) * (s + 1)) : r = s := by
  rcases Nat.lt_trichotomy r s with h | h | h
  · have := Nat.mul_le_mul (show r + 1 ≤ s from h) (show r + 1 ≤ s from h)
    omega
  · exact h
  · have := Nat.mul_le_mul (show s + 1 ≤ r from h) (show s + 1 ≤ r from h)
    omega
theorem c_sqrt {X : Nat} (hX : X < 2 ^ 36) (μ : gM) : ∃ r, r < 2 ^ 19 ∧ f_X2_rootOfSquare (lN X) μ = some (nI r) ∧ r * r ≤ X ∧ X < (r + 1) * (r + 1) := by
  have hc : ∀ i, i < 19 → 524288 / 2 ^ i = 2 * (524288 / 2 ^ (i + 1)) ∧ 0 < 524288 / 2 ^ (i + 1) ∧ 524288 / 2 ^ (i + 1) ≤ 262144 ∧ (524288 / 2 ^ (i + 1)) / 2 ^ 1 = 524288 / 2 ^ (i + 1 + 1) := by decide +kernel
  obtain ⟨q, h1, r, e, h2, h3, h4⟩ := gloop_rel (body := fun t => b_X2_rootOfSquare_5 (lN X) t.1 t.2 μ) (fun i t => ∃ r, t.1 = nI r ∧ t.2 = nI (524288 / 2 ^ (i + 1)) ∧ r * r ≤ X ∧ X < (r + 524288 / 2 ^ i) * (r + 524288 / 2 ^ i) ∧ r + 524288 / 2 ^ i ≤ 524288) (fun q => ∃ r, q = nI r ∧ r < 2 ^ 19 ∧ r * r ≤ X ∧ X < (r + 1) * (r + 1)) 19 (fun i t hi hR => by
    obtain ⟨x, y⟩ := t
    obtain ⟨r, e1, e2, g1, g2, g3⟩ := hR
    have e1 : x = nI r := e1
    have e2 : y = nI (524288 / 2 ^ (i + 1)) := e2
    subst e1 e2
    show (∃ t, b_X2_rootOfSquare_5 (lN X) (nI r) (nI (524288 / 2 ^ (i + 1))) μ = _ ∧ _) ∨ ∃ q, b_X2_rootOfSquare_5 _ _ _ μ = _ ∧ _
    unfold b_X2_rootOfSquare_5
    by_cases c : i < 19
    · left
      obtain ⟨f1, f2, f3, f4⟩ := hc i c
      have es : nI (524288 / 2 ^ (i + 1)) >>> ((1 : Int32) &&& 31) = nI (524288 / 2 ^ (i + 1 + 1)) := by
        rw [pk_shrN (by omega) _ 1 (by decide), f4]
      rw [es]
      generalize 524288 / 2 ^ (i + 1) = b at *
      rw [f1] at g2 g3
      have hq : (r + b) * (r + b) < 2 ^ 63 := by
        have := Nat.mul_le_mul (show r + b ≤ 524288 by omega) (show r + b ≤ 524288 by omega)
        omega
      rw [if_neg (nI_nle f2 (by omega)), nI_add, nI_l (by omega), lN_mul]
      by_cases d : X < (r + b) * (r + b)
      · rw [if_pos ((pk_lLT (by omega) hq).mpr d)]
        exact ⟨_, rfl, ⟨r, rfl, rfl, g1, d, by omega⟩, c⟩
      · rw [if_neg (fun w => d ((pk_lLT (by omega) hq).mp w))]
        refine ⟨_, rfl, ⟨r + b, rfl, rfl, by omega, ?_, by omega⟩, c⟩
        rw [show r + b + b = r + 2 * b by omega]; exact g2
    · right
      have e : i = 19 := by omega
      subst e
      exact ⟨_, if_pos (show nI (524288 / 2 ^ (19 + 1)) ≤ (0:Int32) by decide), r, rfl, by have : r + 1 ≤ 524288 := g3; omega, g1, g2⟩) (by unfold gFuel; omega) (s0 := (nI 0, nI (524288 / 2 ^ (0 + 1)))) ⟨0, rfl, rfl, Nat.zero_le _, by show X < (0 + 524288) * (0 + 524288); omega, by decide⟩
  subst e
  refine ⟨r, h2, ?_, h3, h4⟩
  unfold f_X2_rootOfSquare
  rw [show gloop (fun t => b_X2_rootOfSquare_5 (lN X) t.1 t.2 μ) gFuel ((0 : Int32), (262144 : Int32)) = _ from h1]
  rfl
end QR
section ML2
variable {v : Nat → Nat → Int32} {μ : gM} {A : Nat}
/-- what the lines of a way are -/
theorem wyl_m (C : CI v) : ∀ f h g, dpv v A h + dpv v A g = f → h < nP v → g < nP v → rtv v A h = rtv v A g → ∀ x, x ∈ wyl v A f h g → x.1 < nN v ∧ bt (tbr v A) x.1 = true ∧ x.2 < nP v
  | 0, h, g, _, _, _, _, x, hx => by cases hx
  | f + 1, h, g, hf, hh, hg, hr, x, hx => by
    have hx : x ∈ (if h = g then [] else if dpv v A g ≤ dpv v A h then (ulN v A h, h) :: wyl v A f (upv v A h) g else wyl v A f h (upv v A g) ++ [(ulN v A g, upv v A g)]) := hx
    by_cases c : h = g
    · rw [if_pos c] at hx; cases hx
    · rw [if_neg c] at hx
      by_cases d : dpv v A g ≤ dpv v A h
      · rw [if_pos d] at hx
        obtain ⟨l, l1, l2, l3, l4, l5, l6, l7, l8, l9⟩ := up_l (A := A) C hh (deep C hh hg hr c d)
        rw [l2, l5] at hx
        rcases List.mem_cons.mp hx with e | e
        · rw [e]; exact ⟨l3, l9, hh⟩
        · exact wyl_m C f _ _ (by omega) l6 hg (l7.trans hr) x e
      · rw [if_neg d] at hx
        obtain ⟨l, l1, l2, l3, l4, l5, l6, l7, l8, l9⟩ := up_l (A := A) C hg (deep C hg hh hr.symm (fun w => c w.symm) (by omega))
        rw [l2, l5] at hx
        rcases List.mem_append.mp hx with e | e
        · exact wyl_m C f _ _ (by omega) hh l6 (hr.trans l7.symm) x e
        · rw [List.mem_singleton.mp e]; exact ⟨l3, l9, l6⟩
theorem lway_m (C : CI v) {k : Nat} (hk : k < nN v) (hA : A.testBit k = true) {x : Nat × Nat} (hx : x ∈ lway v A k) : x.1 < nN v ∧ x.2 < nP v := by
  have T := tgr_all C A
  have hg := C.g k hk
  rcases List.mem_cons.mp hx with e | e
  · rw [e]; exact ⟨hk, hg.1⟩
  · have := wyl_m C _ _ _ rfl hg.2 hg.1 (T.2.2.2.2 k hk hA (T.1 _ hg.1)).symm x e
    exact ⟨this.1, this.2.2⟩
theorem wln_b (C : CI v) : ∀ L : List (Nat × Nat), (∀ x, x ∈ L → x.1 < nN v) → ∀ s, List.foldl (fun s (x : Nat × Nat) => s + ln v x.1) s L ≤ s + 1600 * L.length
  | [], _, s => Nat.le_refl _
  | x :: L, h, s => by
    have := wln_b C L (fun y hy => h y (List.mem_cons_of_mem _ hy)) (s + ln v x.1)
    have hl := (C.line (h x (List.mem_cons_self))).lnb
    show List.foldl _ (s + ln v x.1) L ≤ _
    rw [List.length_cons]
    omega
def tol (v : Nat → Nat → Int32) : Nat := (v 1 0).toNatClampNeg
theorem tol_e (C : CI v) : v 1 0 = nI (tol v) ∧ tol v ≤ 500 := by
  obtain ⟨h1, h2⟩ := C.2.2.1.1
  have e : v 1 0 = nI (v 1 0).toInt.toNat := by
    refine Int32.toInt_inj.mp ?_
    rw [nI_toInt (by omega)]; omega
  unfold tol
  rw [e, nI_clamp (by omega)]
  exact ⟨rfl, by omega⟩
def lmX (v : Nat → Nat → Int32) (L : List (Nat × Nat)) : Nat := 10 * tol v * tol v * wln v L
def lmt (v : Nat → Nat → Int32) (L : List (Nat × Nat)) : Int32 := (f_X2_rootOfSquare (lN (lmX v L)) (fun _ _ => 0, fun _ _ => 0)).getD 0
theorem lm_b (C : CI v) {L : List (Nat × Nat)} (h : ∀ x, x ∈ L → x.1 < nN v) (hl : L.length ≤ 16) : wln v L ≤ 25600 ∧ lmX v L < 2 ^ 36 := by
  have h1 := wln_b C L h 0
  have h2 : wln v L ≤ 25600 := by
    have : wln v L ≤ 0 + 1600 * L.length := h1
    omega
  refine ⟨h2, ?_⟩
  have ht := (tol_e C).2
  have a := Nat.mul_le_mul (Nat.mul_le_mul (Nat.mul_le_mul (Nat.le_refl 10) ht) ht) h2
  unfold lmX
  omega
theorem lmt_c (C : CI v) {L : List (Nat × Nat)} (h : ∀ x, x ∈ L → x.1 < nN v) (hl : L.length ≤ 16) : ∃ r, r < 2 ^ 19 ∧ lmt v L = nI r ∧ (∀ μ, f_X2_rootOfSquare (lN (lmX v L)) μ = some (nI r)) ∧ r * r ≤ lmX v L ∧ lmX v L < (r + 1) * (r + 1) := by
  have hb := (lm_b C h hl).2
  obtain ⟨r, h1, h2, h3, h4⟩ := c_sqrt hb (fun _ _ => 0, fun _ _ => 0)
  refine ⟨r, h1, ?_, fun μ => ?_, h3, h4⟩
  · unfold lmt; rw [h2]; rfl
  · obtain ⟨s, g1, g2, g3, g4⟩ := c_sqrt hb μ
    rw [g2, sq_u h3 h4 g3 g4]
theorem X_e (C : CI v) (L : List (Nat × Nat)) (hw : wln v L ≤ 25600) : (10 : Int64) * (v 1 0).toInt64 * (v 1 0).toInt64 * (nI (wln v L)).toInt64 = lN (lmX v L) := by
  obtain ⟨e, ht⟩ := tol_e C
  rw [e, nI_l (by omega), nI_l (by omega), show (10 : Int64) = lN 10 from rfl, lN_mul, lN_mul, lN_mul]
  rfl
theorem tk_app {L : List (Nat × Nat)} {i : Nat} {x : Nat × Nat} (h : L[i]? = some x) : L.take (i + 1) = L.take i ++ [x] := by
  rw [List.take_add_one, h]; rfl
theorem c_meas (C : CO v μ) {L : List (Nat × Nat)} (h : ∀ x, x ∈ L → x.1 < nN v) (hl : L.length ≤ 16) (S : AW v 18 L μ) (B : gi μ 6 8 = nI L.length) {c : Nat} (hc : c < 20) : f_X2_measureWay (nI c) μ = some (si (si (si (si μ 14 c (wset L)) 15 c (nI (wln v L))) 16 c (wrs v L)) 17 c (lmt v L)) := by
  have hb := C.1.b
  obtain ⟨r, r1, r2, r3, r4⟩ := lmt_c C.1 h hl
  have g : gloop (fun t => b_X2_measureWay_11 (nI c) t.1 t.2.1 t.2.2.1 t.2.2.2 μ) gFuel ((0 : Int32), (0 : Int32), (0 : Int32), (0 : Int32)) = some (wset L, nI (wln v L), wrs v L) := by
    have e0 : (wset (L.take L.length), nI (wln v (L.take L.length)), wrs v (L.take L.length)) = (wset L, nI (wln v L), wrs v L) := by rw [List.take_length]
    rw [← e0]
    refine gloop_run (fun i => (wset (L.take i), nI (wln v (L.take i)), wrs v (L.take i), nI i)) L.length (fun i hi => ?_) ?_ gFuel (by unfold gFuel; omega)
    · show b_X2_measureWay_11 (nI c) (wset (L.take i)) (nI (wln v (L.take i))) (wrs v (L.take i)) (nI i) μ = _
      obtain ⟨x, hx⟩ : ∃ x, L[i]? = some x := ⟨L[i], List.getElem?_eq_getElem hi⟩
      have hxm : x ∈ L := List.mem_of_getElem? hx
      have hxn := h x hxm
      show _ = some (Sum.inl (wset (L.take (i + 1)), nI (wln v (L.take (i + 1))), wrs v (L.take (i + 1)), nI (i + 1)))
      rw [tk_app hx, wset_a, wln_a, wrs_a]
      unfold b_X2_measureWay_11 j_X2_measureWay_37 j_X2_measureWay_64
      rw [B, if_neg (nI_ge hi (by omega))]
      simp (disch := omega) only [gck, nI_clamp]
      rw [S i x hx]
      have l100 : (100 : Int32) = nI 100 := rfl
      unfold enc rfr
      by_cases e : fs v x.1 = x.2
      · rw [if_pos e, if_pos e, l100, if_pos (nI_lt (by omega) (by decide)), if_pos trivial, c_lineLength C hxn, Option.bind_some, if_pos trivial, c_lineRise C hxn, Option.bind_some, nI_add, nI_1]
      · rw [if_neg e, if_neg e, l100, if_neg (nI_nlt (by omega) (by omega)), if_neg (by decide), pk_sub (by omega), Nat.add_sub_cancel, c_lineLength C hxn, Option.bind_some, if_neg (by decide), c_lineRise C hxn, Option.bind_some, nI_add, nI_1]
    · show b_X2_measureWay_11 (nI c) _ _ _ (nI L.length) μ = _
      unfold b_X2_measureWay_11
      rw [B, if_pos (nI_le (Nat.le_refl _) (by omega))]
  unfold f_X2_measureWay
  rw [g, Option.bind_some, gckb (by decide)]
  simp (disch := omega) only [gck, nI_clamp]
  rw [show (0 : Int32).toNatClampNeg = 0 by decide, show gi μ 35 0 = v 1 0 from C.at 1 0 (by decide), X_e C.1 L (lm_b C.1 h hl).1, r3, Option.bind_some, r2]
/-- the class's loops -/
def FD (v : Nat → Nat → Int32) (A : Nat) (μ : gM) : Prop := CT v A μ ∧ gi μ 6 1 = nI (nlp v A) ∧ ∀ k, k < nN v → lpB A (tbr v A) k → gi μ 13 (lc A (tbr v A) k) = nI k ∧ gi μ 14 (lc A (tbr v A) k) = wset (lway v A k) ∧ gi μ 15 (lc A (tbr v A) k) = nI (wln v (lway v A k)) ∧ gi μ 16 (lc A (tbr v A) k) = wrs v (lway v A k) ∧ gi μ 17 (lc A (tbr v A) k) = lmt v (lway v A k)
theorem c_find (C : CO v μ) (hA : A < 2 ^ 31) : ∃ ν, f_X2_find (nI A) μ = some ν ∧ Fr μ ν ∧ FD v A ν := by
  have hb := C.1.b
  obtain ⟨ν0, e0, F0, -, T0⟩ := c_grow C hA
  obtain ⟨ν1, h1⟩ : ∃ ν1, ν1 = si ν0 6 1 (0 : Int32) := ⟨_, rfl⟩
  have F1 : Fr μ ν1 := by rw [h1]; exact F0.si rfl
  have T1 : CT v A ν1 := by rw [h1]; exact CT.cg (μ := ν0) T0 (fun k i h1 h2 => gi_sik (by omega))
  have hbr : gi ν1 7 5 = tbr v A := T1.2.2
  obtain ⟨ν, h2, F2, R2⟩ := gloop_rel (body := fun t => b_X2_find_29 (nI A &&& (tbr v A ^^^ (-1 : Int32))) t.1 t.2) (fun i t => i ≤ nN v ∧ t.1 = nI i ∧ Fr μ t.2 ∧ CT v A t.2 ∧ gi t.2 6 1 = nI (lc A (tbr v A) i) ∧ ∀ k, k < i → lpB A (tbr v A) k → gi t.2 13 (lc A (tbr v A) k) = nI k ∧ gi t.2 14 (lc A (tbr v A) k) = wset (lway v A k) ∧ gi t.2 15 (lc A (tbr v A) k) = nI (wln v (lway v A k)) ∧ gi t.2 16 (lc A (tbr v A) k) = wrs v (lway v A k) ∧ gi t.2 17 (lc A (tbr v A) k) = lmt v (lway v A k)) (fun ν => Fr μ ν ∧ FD v A ν) (nN v) (fun i t hi hR => by
    obtain ⟨x, ν⟩ := t
    obtain ⟨-, e1, F, T, B, O⟩ := hR
    have e1 : x = nI i := e1
    subst e1
    replace F : Fr μ ν := F
    replace T : CT v A ν := T
    replace B : gi ν 6 1 = nI (lc A (tbr v A) i) := B
    have E := C.fr F
    have lcl := lc_le A (tbr v A) i
    show (∃ t, b_X2_find_29 (nI A &&& (tbr v A ^^^ (-1 : Int32))) (nI i) ν = _ ∧ _) ∨ ∃ q, b_X2_find_29 _ _ ν = _ ∧ _
    unfold b_X2_find_29
    rw [E.N]
    by_cases c : i < nN v
    · left
      rw [if_neg (nI_ge c (by omega)), b_test (by omega), nI_1]
      by_cases d : lpB A (tbr v A) i
      · rw [if_pos (show (if bt (nI A &&& (tbr v A ^^^ (-1 : Int32))) i = true then (1 : Int32) else 0) = 1 from if_pos ((lpB_b hA (by omega)).mpr d)), B]
        simp (disch := omega) only [gck, nI_clamp]
        have Fa : Fr μ (si ν 13 (lc A (tbr v A) i) (nI i)) := F.si rfl
        have Ta : CT v A (si ν 13 (lc A (tbr v A) i) (nI i)) := T.cg (fun k j h1 h2 => gi_sik (by omega))
        obtain ⟨ν2, g1, g2, g3, g4, g5⟩ := c_walk (C.fr Fa) Ta c d.1
        have E2 := C.fr (Fa.tr g2.fr)
        have g6 : gi ν2 6 1 = nI (lc A (tbr v A) i) := (g2.1 6 1 (by decide) (by decide) (Or.inr (by decide))).trans ((gi_sik (by decide)).trans B)
        rw [g1, Option.bind_some, g6, c_meas E2 (fun x hx => (lway_m C.1 c d.1 hx).1) g5 g3 g4 (by omega), Option.bind_some]
        have keep : ∀ k j, 13 ≤ k → k < 18 → j ≠ lc A (tbr v A) i → gi (si (si (si (si ν2 14 (lc A (tbr v A) i) (wset (lway v A i))) 15 (lc A (tbr v A) i) (nI (wln v (lway v A i)))) 16 (lc A (tbr v A) i) (wrs v (lway v A i))) 17 (lc A (tbr v A) i) (lmt v (lway v A i))) k j = gi ν k j := fun k j h1 h2 hj => by
          rw [gi_si, if_neg (by omega), gi_si, if_neg (by omega), gi_si, if_neg (by omega), gi_si, if_neg (by omega)]
          refine (g2.1 k j (by omega) (by omega) (by omega)).trans ?_
          show gi (si ν 13 _ _) k j = _
          rw [gi_si, if_neg (by omega)]
        refine ⟨_, rfl, ⟨by omega, rfl, ((((((Fa.tr g2.fr).si rfl).si rfl).si rfl).si rfl).si rfl), ?_, ?_, fun k hk hp => ?_⟩, c⟩
        · refine CT.cg (μ := si ν 13 (lc A (tbr v A) i) (nI i)) Ta (fun k j h1 h2 => ?_)
          rw [gi_sik (by omega), gi_sik (by omega), gi_sik (by omega), gi_sik (by omega), gi_sik (by omega)]
          exact g2.1 k j (by omega) (by omega) (by omega)
        · show gi (si _ 6 1 _) 6 1 = _
          rw [gi_sii, gi_sik (by decide), gi_sik (by decide), gi_sik (by decide), gi_sik (by decide), g6, nI_1, show lc A (tbr v A) (i + 1) = lc A (tbr v A) i + 1 from if_pos d]
        · by_cases e : k = i
          · subst e
            refine ⟨?_, ?_, ?_, ?_, ?_⟩
            · exact (gi_sik (by decide)).trans ((gi_sik (by decide)).trans ((gi_sik (by decide)).trans ((gi_sik (by decide)).trans ((gi_sik (by decide)).trans ((g2.1 13 _ (by decide) (by decide) (Or.inl (by decide))).trans gi_sii)))))
            · exact (gi_sik (by decide)).trans ((gi_sik (by decide)).trans ((gi_sik (by decide)).trans ((gi_sik (by decide)).trans gi_sii)))
            · exact (gi_sik (by decide)).trans ((gi_sik (by decide)).trans ((gi_sik (by decide)).trans gi_sii))
            · exact (gi_sik (by decide)).trans ((gi_sik (by decide)).trans gi_sii)
            · exact (gi_sik (by decide)).trans gi_sii
          · have hki : k < i := by omega
            have hlt := lc_in (N := i) hki hp
            have O' := O k hki hp
            exact ⟨(gi_sik (by decide)).trans ((keep 13 _ (by decide) (by decide) (by omega)).trans O'.1), (gi_sik (by decide)).trans ((keep 14 _ (by decide) (by decide) (by omega)).trans O'.2.1), (gi_sik (by decide)).trans ((keep 15 _ (by decide) (by decide) (by omega)).trans O'.2.2.1), (gi_sik (by decide)).trans ((keep 16 _ (by decide) (by decide) (by omega)).trans O'.2.2.2.1), (gi_sik (by decide)).trans ((keep 17 _ (by decide) (by decide) (by omega)).trans O'.2.2.2.2)⟩
      · rw [if_neg (show ¬ (if bt (nI A &&& (tbr v A ^^^ (-1 : Int32))) i = true then (1 : Int32) else 0) = 1 from by
          rw [if_neg (fun w => d ((lpB_b hA (by omega)).mp w))]; decide)]
        refine ⟨_, rfl, ⟨by omega, rfl, F, T, ?_, fun k hk hp => O k (by
          have : k ≠ i := fun w => d (w ▸ hp)
          omega) hp⟩, c⟩
        rw [show lc A (tbr v A) (i + 1) = lc A (tbr v A) i from if_neg d]; exact B
    · right
      have e : i = nN v := by omega
      subst e
      exact ⟨_, if_pos (nI_le (Nat.le_refl _) (by omega)), F, T, B, O⟩) (by unfold gFuel; omega) (s0 := (nI 0, ν1)) ⟨by omega, rfl, F1, T1, by rw [h1]; exact gi_sii, fun k hk => absurd hk (Nat.not_lt_zero _)⟩
  refine ⟨ν, ?_, F2, R2⟩
  unfold f_X2_find
  rw [e0, Option.bind_some, ← h1, hbr, show gloop (fun t => b_X2_find_29 (nI A &&& (tbr v A ^^^ (-1 : Int32))) t.1 t.2) gFuel ((0 : Int32), ν1) = _ from h2]
  rfl
end ML2

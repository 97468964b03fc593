section QR
/-! square roots, the class's loops -/
theorem sq_u {X r s : Nat} (h1 : r * r ≤ X) (h2 : X < (r + 1) * (r + 1)) (h3 : s * s ≤ X) (h4 : X < (s + 1) * (s + 1)) : r = s := by
  rcases Nat.lt_trichotomy r s with h | h | h
  · have := Nat.mul_le_mul (show r + 1 ≤ s from h) (show r + 1 ≤ s from h)
    omega
  · exact h
  · have := Nat.mul_le_mul (show s + 1 ≤ r from h) (show s + 1 ≤ r from h)
    omega
theorem c_sqrt {X : Nat} (hX : X < 2 ^ 36) (μ : gM) : ∃ r, r < 2 ^ 19 ∧ f_X2_rootOfSquare (lN X) μ = some (nI r) ∧ r * r ≤ X ∧ X < (r + 1) * (r + 1) := by
  have hc : ∀ i, i < 19 → 524288 / 2 ^ i = 2 * (524288 / 2 ^ (i + 1)) ∧ 0 < 524288 / 2 ^ (i + 1) ∧ 524288 / 2 ^ (i + 1) ≤ 262144 ∧ (524288 / 2 ^ (i + 1)) / 2 ^ 1 = 524288 / 2 ^ (i + 1 + 1) := by decide +kernel
  obtain ⟨q, h1, r, e, h2, h3, h4⟩ := gloop_rel (body := fun t => b_X2_rootOfSquare_5 (lN X) t.1 t.2 μ) (fun i t => ∃ r, t.1 = nI r ∧ t.2 = nI (524288 / 2 ^ (i + 1)) ∧ r * r ≤ X ∧ X < (r + 524288 / 2 ^ i) * (r + 524288 / 2 ^ i) ∧ r + 524288 / 2 ^ i ≤ 524288) (fun q => ∃ r, q = nI r ∧ r < 2 ^ 19 ∧ r * r ≤ X ∧ X < (r + 1) * (r + 1)) 19 (fun i t hi hR => by
    obtain ⟨x, y⟩ := t
    obtain ⟨r, e1, e2, g1, g2, g3⟩ := hR
    have e1 : x = nI r := e1
    have e2 : y = nI (524288 / 2 ^ (i + 1)) := e2
    subst e1 e2
    show (∃ t, b_X2_rootOfSquare_5 (lN X) (nI r) (nI (524288 / 2 ^ (i + 1))) μ = _ ∧ _) ∨ ∃ q, b_X2_rootOfSquare_5 _ _ _ μ = _ ∧ _
    unfold b_X2_rootOfSquare_5
    by_cases c : i < 19
    · left
      obtain ⟨f1, f2, f3, f4⟩ := hc i c
      have es : nI (524288 / 2 ^ (i + 1)) >>> ((1 : Int32) &&& 31) = nI (524288 / 2 ^ (i + 1 + 1)) := by
        rw [pk_shrN (by omega) _ 1 (by decide), f4]
      rw [es]
      generalize 524288 / 2 ^ (i + 1) = b at *
      rw [f1] at g2 g3
      have hq : (r + b) * (r + b) < 2 ^ 63 := by
        have := Nat.mul_le_mul (show r + b ≤ 524288 by omega) (show r + b ≤ 524288 by omega)
        omega
      rw [if_neg (nI_nle f2 (by omega)), nI_add, nI_l (by omega), lN_mul]
      by_cases d : X < (r + b) * (r + b)
      · rw [if_pos ((pk_lLT (by omega) hq).mpr d)]
        exact ⟨_, rfl, ⟨r, rfl, rfl, g1, d, by omega⟩, c⟩
      · rw [if_neg (fun w => d ((pk_lLT (by omega) hq).mp w))]
        refine ⟨_, rfl, ⟨r + b, rfl, rfl, by omega, ?_, by omega⟩, c⟩
        rw [show r + b + b = r + 2 * b by omega]; exact g2
    · right
      have e : i = 19 := by omega
      subst e
      exact ⟨_, if_pos (show nI (524288 / 2 ^ (19 + 1)) ≤ (0:Int32) by decide), r, rfl, by have : r + 1 ≤ 524288 := g3; omega, g1, g2⟩) (by unfold gFuel; omega) (s0 := (nI 0, nI (524288 / 2 ^ (0 + 1)))) ⟨0, rfl, rfl, Nat.zero_le _, by show X < (0 + 524288) * (0 + 524288); omega, by decide⟩
  subst e
  refine ⟨r, h2, ?_, h3, h4⟩
  unfold f_X2_rootOfSquare
  rw [show gloop (fun t => b_X2_rootOfSquare_5 (lN X) t.1 t.2 μ) gFuel ((0 : Int32), (262144 : Int32)) = _ from h1]
  rfl
end QR
section ML2
variable {v : Nat → Nat → Int32} {μ : gM} {A : Nat}
/-- what the lines of a way are -/
theorem wyl_m (C : CI v) : ∀ f h g, dpv v A h + dpv v A g = f → h < nP v → g < nP v → rtv v A h = rtv v A g → ∀ x, x ∈ wyl v A f h g → x.1 < nN v ∧ bt (tbr v A) x.1 = true ∧ x.2 < nP v
  | 0, h, g, _, _, _, _, x, hx => by cases hx
  | f + 1, h, g, hf, hh, hg, hr, x, hx => by
    have hx : x ∈ (if h = g then [] else if dpv v A g ≤ dpv v A h then (ulN v A h, h) :: wyl v A f (upv v A h) g else wyl v A f h (upv v A g) ++ [(ulN v A g, upv v A g)]) := hx
    by_cases c : h = g
    · rw [if_pos c] at hx; cases hx
    · rw [if_neg c] at hx
      by_cases d : dpv v A g ≤ dpv v A h
      · rw [if_pos d] at hx
        obtain ⟨l, l1, l2, l3, l4, l5, l6, l7, l8, l9⟩ := up_l (A := A) C hh (deep C hh hg hr c d)
        rw [l2, l5] at hx
        rcases List.mem_cons.mp hx with e | e
        · rw [e]; exact ⟨l3, l9, hh⟩
        · exact wyl_m C f _ _ (by omega) l6 hg (l7.trans hr) x e
      · rw [if_neg d] at hx
        obtain ⟨l, l1, l2, l3, l4, l5, l6, l7, l8, l9⟩ := up_l (A := A) C hg (deep C hg hh hr.symm (fun w => c w.symm) (by omega))
        rw [l2, l5] at hx
        rcases List.mem_append.mp hx with e | e
        · exact wyl_m C f _ _ (by omega) hh l6 (hr.trans l7.symm) x e
        · rw [List.mem_singleton.mp e]; exact ⟨l3, l9, l6⟩
theorem lway_m (C : CI v) {k : Nat} (hk : k < nN v) (hA : A.testBit k = true) {x : Nat × Nat} (hx : x ∈ lway v A k) : x.1 < nN v ∧ x.2 < nP v := by
  have T := tgr_all C A
  have hg := C.g k hk
  rcases List.mem_cons.mp hx with e | e
  · rw [e]; exact ⟨hk, hg.1⟩
  · have := wyl_m C _ _ _ rfl hg.2 hg.1 (T.2.2.2.2 k hk hA (T.1 _ hg.1)).symm x e
    exact ⟨this.1, this.2.2⟩
theorem wln_b (C : CI v) : ∀ L : List (Nat × Nat), (∀ x, x ∈ L → x.1 < nN v) → ∀ s, List.foldl (fun s (x : Nat × Nat) => s + ln v x.1) s L ≤ s + 1600 * L.length
  | [], _, s => Nat.le_refl _
  | x :: L, h, s => by
    have := wln_b C L (fun y hy => h y (List.mem_cons_of_mem _ hy)) (s + ln v x.1)
    have hl := (C.line (h x (List.mem_cons_self))).lnb
    show List.foldl _ (s + ln v x.1) L ≤ _
    rw [List.length_cons]
    omega
def tol (v : Nat → Nat → Int32) : Nat := (v 1 0).toNatClampNeg
theorem tol_e (C : CI v) : v 1 0 = nI (tol v) ∧ tol v ≤ 500 := by
  obtain ⟨h1, h2⟩ := C.2.2.1.1
  have e : v 1 0 = nI (v 1 0).toInt.toNat := by
    refine Int32.toInt_inj.mp ?_
    rw [nI_toInt (by omega)]; omega
  unfold tol
  rw [e, nI_clamp (by omega)]
  exact ⟨rfl, by omega⟩
def lmX (v : Nat → Nat → Int32) (L : List (Nat × Nat)) : Nat := 10 * tol v * tol v * wln v L
def lmt (v : Nat → Nat → Int32) (L : List (Nat × Nat)) : Int32 := (f_X2_rootOfSquare (lN (lmX v L)) (fun _ _ => 0, fun _ _ => 0)).getD 0
theorem lm_b (C : CI v) {L : List (Nat × Nat)} (h : ∀ x, x ∈ L → x.1 < nN v) (hl : L.length ≤ 16) : wln v L ≤ 25600 ∧ lmX v L < 2 ^ 36 := by
  have h1 := wln_b C L h 0
  have h2 : wln v L ≤ 25600 := by
    have : wln v L ≤ 0 + 1600 * L.length := h1
    omega
  refine ⟨h2, ?_⟩
  have ht := (tol_e C).2
  have a := Nat.mul_le_mul (Nat.mul_le_mul (Nat.mul_le_mul (Nat.le_refl 10) ht) ht) h2
  unfold lmX
  omega
theorem X_e (C : CI v) (L : List (Nat × Nat)) (hw : wln v L ≤ 25600) : (10 : Int64) * (v 1 0).toInt64 * (v 1 0).toInt64 * (nI (wln v L)).toInt64 = lN (lmX v L) := by
  obtain ⟨e, ht⟩ := tol_e C
  rw [e, nI_l (by omega), nI_l (by omega), show (10 : Int64) = lN 10 from rfl, lN_mul, lN_mul, lN_mul]
  rfl
theorem tk_app {L : List (Nat × Nat)} {i : Nat} {x : Nat × Nat} (h : L[i]? = some x) : L.take (i + 1) = L.take i ++ [x] := by
  rw [List.take_add_one, h]; rfl
/-- the class's loops -/
def FD (v : Nat → Nat → Int32) (A : Nat) (μ : gM) : Prop := CT v A μ ∧ gi μ 6 1 = nI (nlp v A) ∧ ∀ k, k < nN v → lpB A (tbr v A) k → gi μ 13 (lc A (tbr v A) k) = nI k ∧ gi μ 14 (lc A (tbr v A) k) = wset (lway v A k) ∧ gi μ 15 (lc A (tbr v A) k) = nI (wln v (lway v A k)) ∧ gi μ 16 (lc A (tbr v A) k) = wrs v (lway v A k) ∧ gi μ 17 (lc A (tbr v A) k) = lmt v (lway v A k)
end ML2

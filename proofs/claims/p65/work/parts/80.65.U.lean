theorem vs_back {v : Nat → Nat → Int32} {j i : Nat} {x : Int32} : vset (vset v j i x) j i (v j i) = v := by
  funext a b
  by_cases c : a = j ∧ b = i
  · rw [c.1, c.2, vs_s]
  · unfold vset
    rw [if_neg c, if_neg c]
theorem MO.cg {v : Nat → Nat → Int32} {μ ν : gM} (M : MO v μ) (h1 : ∀ i, i < 702 → ν.1 61 i = μ.1 61 i) (h2 : ν.1 66 = μ.1 66) : MO v ν := by
  have hb := M.1.b
  obtain ⟨q1, q2, q3, q4, q5, q6, q7⟩ := M.2.1
  refine ⟨M.1, ⟨fun i hi => (h1 _ (by omega)).trans (q1 i hi), fun i hi => (h1 _ (by omega)).trans (q2 i hi), fun i hi => (h1 _ (by omega)).trans (q3 i hi), fun i hi hj => (h1 _ (by omega)).trans (q4 i hi hj), fun i hi => (h1 _ (by omega)).trans (q5 i hi), fun i hi => (h1 _ (by omega)).trans (q6 i hi), fun k hk s hs w hw => ?_⟩, by rw [h2]; exact M.2.2⟩
  have := (M.1.line hk).cnt
  exact (h1 _ (by omega)).trans (q7 k hk s hs w hw)
theorem d61 {μ ν1 : gM} (h : ∀ i, ν1.1 61 i = if i = 702 then 0 else μ.1 61 i) (y : Nat) (x : Int32) (hy : y ≠ 702) : (∀ q, q < 702 → (si ν1 61 y x).1 61 q = if q = y then x else μ.1 61 q) ∧ (si ν1 61 y x).1 61 702 = 0 := by
  refine ⟨fun q hq => ?_, ?_⟩
  · show (if (61 : Nat) = 61 ∧ q = y then x else ν1.1 61 q) = _
    by_cases c : q = y
    · rw [if_pos ⟨rfl, c⟩, if_pos c]
    · rw [if_neg (fun w => c w.2), if_neg c, h, if_neg (by omega)]
  · show (if (61 : Nat) = 61 ∧ 702 = y then x else ν1.1 61 702) = _
    rw [if_neg (fun w => hy w.2.symm), h, if_pos rfl]
theorem si1 {μ : gM} {K i k b : Nat} {x : Int32} (h : k ≠ K) : (si μ K i x).1 k b = μ.1 k b := if_neg (fun w => h w.1)
def hcN (v : Nat → Nat → Int32) : Nat → Nat
  | 0 => 0
  | p + 1 => if v 5 p = -1 then hcN v p else hcN v p + 1
theorem c_cntH {v : Nat → Nat → Int32} {μ : gM} (C : CO v μ) : f_X3_countHeld μ = some (nI (hcN v (nP v))) := by
  have hb := C.1.b
  unfold f_X3_countHeld
  have h : gloop (fun t => b_X3_countHeld_4 t.1 t.2 μ) gFuel ((0 : Int32), (0 : Int32)) = some (nI (hcN v (nP v))) := by
    refine gloop_run (fun i => (nI (hcN v i), nI i)) (nP v) (fun i hi => ?_) ?_ gFuel (by unfold gFuel; omega)
    · show b_X3_countHeld_4 (nI (hcN v i)) (nI i) μ = some (Sum.inl (nI (if v 5 i = -1 then hcN v i else hcN v i + 1), nI (i + 1)))
      unfold b_X3_countHeld_4
      rw [C.P, if_neg (nI_ge hi (by omega))]
      simp (disch := omega) only [gck, nI_clamp, nI_1]
      rw [show gi μ 39 i = v 5 i from C.at 5 i (by decide)]
      by_cases c : v 5 i = -1
      · rw [if_pos c, if_pos c]
      · rw [if_neg c, if_neg c]
    · show b_X3_countHeld_4 _ (nI (nP v)) μ = _
      unfold b_X3_countHeld_4
      rw [C.P, if_pos (nI_le (Nat.le_refl _) (by omega))]
  rw [h]; rfl
/-- the class's memory when a change is kept and one cell of the network set -/
theorem f3_si {μ1 : gM} {K i : Nat} {x : Int32} (hK : 34 ≤ K ∧ K < 47) : (∀ k b, rI k b = true → k < 34 ∨ 46 < k → (si μ1 K i x).1 k b = μ1.1 k b) ∧ ∀ k b, rL k = true → (si μ1 K i x).2 k b = μ1.2 k b :=
  ⟨fun k b _ hk => if_neg (fun w => by omega), fun _ _ _ => rfl⟩
theorem keep_m {μ μ1 μ3 : gM} (R : Rel μ) (f1 : ∀ k i, k ≠ 20 → k < 28 ∨ 32 < k → μ1.1 k i = μ.1 k i) (f3 : ∀ k i, rI k i = true → k < 34 ∨ 46 < k → μ3.1 k i = μ1.1 k i) : MO (nv 34 μ) (si μ3 60 6 0) :=
  R.mo.cg (fun i _ => (si1 (K := 60) (by decide)).trans ((f3 61 i rfl (by decide)).trans (f1 61 i (by decide) (by decide)))) (funext fun i => (si1 (K := 60) (by decide)).trans ((f3 66 i rfl (by decide)).trans (f1 66 i (by decide) (by decide))))
theorem fin61 {ν1 : gM} {y : Nat} {x : Int32} : (∀ k i, rI k i = true → k ≠ 61 → (si ν1 61 y x).1 k i = ν1.1 k i) ∧ ∀ k i, rL k = true → (si ν1 61 y x).2 k i = ν1.2 k i :=
  ⟨fun k i _ hk => if_neg (fun w => hk w.1), fun _ _ _ => rfl⟩
theorem nv_keep {μ μ1 : gM} (f1 : ∀ k i, k ≠ 20 → k < 28 ∨ 32 < k → μ1.1 k i = μ.1 k i) : nv 34 μ1 = nv 34 μ := nv_cg (fun k i h1 h2 => f1 k i (by omega) (by omega))
section G9
variable {μ : gM}
theorem res_r {v : Nat → Nat → Int32} {t : Nat} (h : ¬ res v t = -2147483648) : inR (-200) 200 (res v t) := by
  have h2 : (200 : Int32).toInt = 200 := by decide
  have h3 : (-200 : Int32).toInt = -200 := by decide
  unfold res at h ⊢
  by_cases c1 : dvr v t = 0
  · rw [if_pos c1] at h; exact absurd rfl h
  · rw [if_neg c1] at h ⊢
    by_cases c2 : (100 : Int32) * apt v t / dvr v t < -200
    · rw [if_pos c2] at h; exact absurd rfl h
    · rw [if_neg c2] at h ⊢
      by_cases c3 : (100 : Int32) * apt v t / dvr v t ≤ 200
      · rw [if_pos c3]
        rw [Int32.lt_iff_toInt_lt, h3] at c2
        rw [Int32.le_iff_toInt_le, h2] at c3
        exact ⟨by omega, c3⟩
      · rw [if_neg c3] at h; exact absurd rfl h
end G9

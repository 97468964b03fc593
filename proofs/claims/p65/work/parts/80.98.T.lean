section SF
variable {μ ρ ν : gM} {n p : Nat} {v : Nat → Nat → Int32}
/-! statements read: frames, the draft -/
/-- what the class keeps while it reads; what the model keeps -/
def KC (μ ν : gM) : Prop := (∀ k i, (k < 47 ∨ 60 ≤ k) → (k ≠ 1 ∨ i < 3 ∨ 9 < i) → ν.1 k i = μ.1 k i) ∧ ν.2 = μ.2
def KM (μ ν : gM) : Prop := (∀ k i, k ≠ 62 → k ≠ 67 → (k ≠ 60 ∨ i < 12 ∨ 19 < i) → ν.1 k i = μ.1 k i) ∧ ∀ k i, (k ≠ 60 ∨ i ≠ 15) → ν.2 k i = μ.2 k i
theorem KC.rf (μ : gM) : KC μ μ := ⟨fun _ _ _ _ => rfl, rfl⟩
theorem KM.rf (μ : gM) : KM μ μ := ⟨fun _ _ _ _ _ => rfl, fun _ _ _ => rfl⟩
theorem KC.tr {μ ν ρ : gM} (h : KC μ ν) (h2 : KC ν ρ) : KC μ ρ := ⟨fun k i a b => (h2.1 k i a b).trans (h.1 k i a b), h2.2.trans h.2⟩
theorem KM.tr {μ ν ρ : gM} (h : KM μ ν) (h2 : KM ν ρ) : KM μ ρ := ⟨fun k i a b c => (h2.1 k i a b c).trans (h.1 k i a b c), fun k i a => (h2.2 k i a).trans (h.2 k i a)⟩
theorem AF.kc (h : AF μ ν) : KC μ ν := ⟨fun k i _ b => h.1 k i (by omega), h.2⟩
theorem MF.km (h : MF μ ν) : KM μ ν := ⟨fun k i _ _ c => h.1 k i (by omega), fun k i a => h.2 k i a⟩
theorem KC.xsi {k i : Nat} {x : Int32} (h : KC μ ν) (hk : (47 ≤ k ∧ k < 60) ∨ (k = 1 ∧ 3 ≤ i ∧ i ≤ 9)) : KC μ (si ν k i x) := ⟨fun a b q r => by
  show (if a = k ∧ b = i then x else ν.1 a b) = _
  rw [if_neg (by omega)]; exact h.1 a b q r, h.2⟩
theorem KM.xsi {k i : Nat} {x : Int32} (h : KM μ ν) (hk : k = 62 ∨ k = 67 ∨ (k = 60 ∧ 12 ≤ i ∧ i ≤ 19)) : KM μ (si ν k i x) := ⟨fun a b q r s => by
  show (if a = k ∧ b = i then x else ν.1 a b) = _
  rw [if_neg (by omega)]; exact h.1 a b q r s, h.2⟩
theorem KM.xE {c : Int32} (h : KM μ ν) : KM μ (mE c ν) := (h.xsi (by omega)).xsi (by omega)
theorem nvd_at (j i : Nat) (h : j < 13) : nv 47 μ j i = gi μ (47 + j) i := if_pos h
theorem nvd_cg (h : ∀ k i, 47 ≤ k → k < 60 → ν.1 k i = μ.1 k i) : nv 47 ν = nv 47 μ := by
  funext a b
  show (if a < 13 then ν.1 (47 + a) b else 0) = if a < 13 then μ.1 (47 + a) b else 0
  by_cases c : a < 13
  · rw [if_pos c, if_pos c]; exact h _ _ (by omega) (by omega)
  · rw [if_neg c, if_neg c]
theorem nvd_si {j i : Nat} {x : Int32} (hj : j < 13) : nv 47 (si μ (47 + j) i x) = vset (nv 47 μ) j i x := by
  funext a b
  show (if a < 13 then (if 47 + a = 47 + j ∧ b = i then x else μ.1 (47 + a) b) else 0) = if a = j ∧ b = i then x else (if a < 13 then μ.1 (47 + a) b else 0)
  by_cases c : a = j ∧ b = i
  · rw [if_pos c, if_pos (by omega), if_pos (by omega)]
  · rw [if_neg c, if_neg (show ¬ (47 + a = 47 + j ∧ b = i) from fun w => c ⟨by omega, w.2⟩)]
theorem nvd_af (h : AF μ ν) : nv 47 ν = nv 47 μ := nvd_cg (fun k i a b => h.1 k i (by omega))
/-- the two drafts hold the same -/
def DR (μ ρ : gM) : Prop := CI (nv 47 μ) ∧ DM (nv 47 μ) (ρ.1 62) ∧ FM (nv 47 μ) (ρ.1 67) ∧ gi ρ 60 19 = gi μ 1 9 ∧ gi ρ 62 702 = 0
theorem DR.fr {μ2 ρ2 : gM} (D : DR μ ρ) (F : AF μ μ2) (G : MF ρ ρ2) : DR μ2 ρ2 := by
  obtain ⟨a, b, c, d, e⟩ := D
  unfold DR
  rw [nvd_af F, show ρ2.1 62 = ρ.1 62 from funext fun i => G.1 62 i (by omega), show ρ2.1 67 = ρ.1 67 from funext fun i => G.1 67 i (by omega)]
  exact ⟨a, b, c, (G.1 60 19 (by omega)).trans (d.trans (F.1 1 9 (by omega)).symm), (G.1 62 702 (by omega)).trans e⟩
theorem DR.nm (D : DR μ ρ) : NM (nv 47 μ) μ ρ := ⟨⟨D.1.1.1, D.1.1.2.1, D.1.b.1, D.1.b.2.1, fun _ _ => rfl, fun _ _ => rfl⟩, D.2.2.1.1.1.trans D.1.1.1, D.2.2.1.1.2.1.trans D.1.1.2.1, fun k hk => D.2.2.1.2.2.2.1 k hk, fun k hk => D.2.2.1.2.2.2.2 k hk⟩
theorem NM.fr {μ2 ρ2 : gM} (N : NM v μ ρ) (F : AF μ μ2) (G : MF ρ ρ2) : NM v μ2 ρ2 := by
  obtain ⟨⟨a1, a2, a3, a4, a5, a6⟩, b1, b2, b3, b4⟩ := N
  have c : ∀ k i, k ≠ 1 → gi μ2 k i = gi μ k i := fun k i h => F.1 k i (by omega)
  have m : ∀ i, gi ρ2 67 i = gi ρ 67 i := fun i => G.1 67 i (by omega)
  exact ⟨⟨(c 47 0 (by omega)).trans a1, (c 47 1 (by omega)).trans a2, a3, a4, fun k hk => (c 49 k (by omega)).trans (a5 k hk), fun k hk => (c 51 k (by omega)).trans (a6 k hk)⟩, (m 0).trans b1, (m 1).trans b2, fun k hk => (m _).trans (b3 k hk), fun k hk => (m _).trans (b4 k hk)⟩
def Er (c s : Int32) (ρ : gM) : Prop := gi ρ 60 17 = c ∧ gi ρ 60 18 = s
/-- what a statement comes to -/
def Out (n p : Nat) (b : Bool) (ν ρ2 : gM) : Prop := (b = true ∧ (∃ p2, p ≤ p2 ∧ RD n p2 ν ρ2) ∧ DR ν ρ2) ∨ (b = true ∧ gi ν 1 5 ≠ 3 ∧ Er (-11) (gi ν 1 3) ρ2) ∨ (b = false ∧ gi ν 1 8 < 0 ∧ Er (gi ν 1 8) (gi ν 1 3) ρ2)
def Sim (n p : Nat) (μ ρ : gM) (fc : gM → Option (Bool × gM)) (fm : gM → Option gM) : Prop := ∃ b ν ρ2, fc μ = some (b, ν) ∧ fm ρ = some ρ2 ∧ KC μ ν ∧ KM ρ ρ2 ∧ Out n p b ν ρ2
theorem Er_E (R : RD n p μ ρ) {c : Int32} : Er c (gi μ 1 3) (mE c ρ) := ⟨mE_17, mE_18.trans R.ps⟩
theorem Out.bad {q : Nat} (R : RD n q μ ρ) {c : Int32} (hc : c < 0) : Out n p false (si μ 1 8 c) (mE c ρ) := by
  refine Or.inr (Or.inr ⟨rfl, ?_, ?_⟩)
  · rw [gi_sii]; exact hc
  · rw [gi_sii, gi_sij (by decide)]; exact Er_E R
theorem b2t : (b2i true = 0) = False := eq_false (by decide)
theorem b2f : (b2i false = 0) = True := eq_true rfl
theorem lt0 {c : Int32} (h : c < 0) : gi (mE c ρ) 60 17 ≠ 0 := by
  rw [mE_17]
  exact fun w => absurd h (by rw [w]; decide)
theorem neg_in {x : Int32} (h : inR 0 200 x) : inR (-200) 200 (-x) := by
  unfold inR at h ⊢
  rw [Int32.toInt_neg, Int.bmod_eq_of_le (by omega) (by omega)]
  omega
end SF

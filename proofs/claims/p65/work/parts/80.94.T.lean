section TM
variable {ρ : gM} {t : Nat → Int32} {n p : Nat}
/-! what is read: tokens, the model's side -/
theorem byF_k : ∀ k, k < 256 → (((nI k - 128) &&& 255 = 32) ↔ (nI k - 128 = 32)) ∧ (((nI k - 128) &&& 255 = 10) ↔ (nI k - 128 = 10)) ∧ (((nI k - 128) &&& 255 = 59) ↔ (nI k - 128 = 59)) ∧
    ((¬ ((nI k - 128) &&& 255) < 97 ∧ ¬ (122 : Int32) < ((nI k - 128) &&& 255)) ↔ (¬ (nI k - 128) < 97 ∧ ¬ (122 : Int32) < (nI k - 128))) ∧ ((¬ ((nI k - 128) &&& 255) < 48 ∧ ¬ (57 : Int32) < ((nI k - 128) &&& 255)) ↔ (¬ (nI k - 128) < 48 ∧ ¬ (57 : Int32) < (nI k - 128))) ∧ 0 ≤ ((nI k - 128) &&& 255) ∧ (¬ (nI k - 128) < 0 → ((nI k - 128) &&& 255) = nI k - 128) := by decide +kernel
theorem byF {x : Int32} (h : inR (-128) 127 x) : ((x &&& 255 = 32) ↔ (x = 32)) ∧ ((x &&& 255 = 10) ↔ (x = 10)) ∧ ((x &&& 255 = 59) ↔ (x = 59)) ∧
    ((¬ (x &&& 255) < 97 ∧ ¬ (122 : Int32) < (x &&& 255)) ↔ ltr x) ∧ ((¬ (x &&& 255) < 48 ∧ ¬ (57 : Int32) < (x &&& 255)) ↔ dgt x) ∧ 0 ≤ (x &&& 255) ∧ (¬ x < 0 → (x &&& 255) = x) := by
  obtain ⟨h1, h2⟩ := h
  have e : x = nI (x.toInt + 128).toNat - 128 := by
    refine Int32.toInt_inj.mp ?_
    rw [show (128 : Int32) = nI 128 from rfl, pk_sub_toInt (by omega) (by decide)]
    omega
  have := byF_k (x.toInt + 128).toNat (by omega)
  rw [← e] at this
  exact this
/-- cells that the model's reader moves -/
def MF (μ ν : gM) : Prop := (∀ k i, (k ≠ 60 ∨ i < 12 ∨ 16 < i) → ν.1 k i = μ.1 k i) ∧ ∀ k i, (k ≠ 60 ∨ i ≠ 15) → ν.2 k i = μ.2 k i
theorem MF.rf (μ : gM) : MF μ μ := ⟨fun _ _ _ => rfl, fun _ _ _ => rfl⟩
theorem MF.tr {μ ν ρ : gM} (h : MF μ ν) (h2 : MF ν ρ) : MF μ ρ := ⟨fun k i x => (h2.1 k i x).trans (h.1 k i x), fun k i x => (h2.2 k i x).trans (h.2 k i x)⟩
theorem MF.xsi {μ ν : gM} {i : Nat} {x : Int32} (h : MF μ ν) (hi : 12 ≤ i ∧ i ≤ 16) : MF μ (si ν 60 i x) := ⟨fun k j hk => by
  simp only [si]
  rw [if_neg (by omega)]
  exact h.1 k j hk, h.2⟩
theorem MF.xsl {μ ν : gM} {x : Int64} (h : MF μ ν) : MF μ (sl ν 60 15 x) := ⟨h.1, fun k j hk => by
  simp only [sl]
  rw [if_neg (by omega)]
  exact h.2 k j hk⟩
/-- the model's text -/
def TXm (t : Nat → Int32) (n : Nat) (ρ : gM) : Prop := n ≤ 1200 ∧ gi ρ 60 11 = nI n ∧ ∀ j, j < n → gi ρ 68 j = t j ∧ inR (-128) 127 (t j)
theorem TXm.mf {ρ ν : gM} (h : TXm t n ρ) (F : MF ρ ν) : TXm t n ν := ⟨h.1, (F.1 60 11 (by omega)).trans h.2.1, fun j hj => ⟨(F.1 68 j (by omega)).trans (h.2.2 j hj).1, (h.2.2 j hj).2⟩⟩
/-- the model's word and number -/
def wdM (t : Nat → Int32) (s : Nat) : Nat → Int64
  | 0 => 0
  | i + 1 => if 12 ≤ i then 0 else (wdM t s i <<< ((5 : Int32).toInt64 &&& 63)) ||| (t (s + i) - 96).toInt64
def nbM (t : Nat → Int32) (s : Nat) : Nat → Int32
  | 0 => 0
  | i + 1 => if nbM t s i ≤ (100000000 : Int32) then ((10 : Int32) * nbM t s i + t (s + i)) - 48 else 1000000000
theorem ltr_p {x : Int32} (h : ltr x) : ¬ x < 0 := fun w => h.1 (Int32.lt_trans w (by decide))
theorem dgt_p {x : Int32} (h : dgt x) : ¬ x < 0 := fun w => h.1 (Int32.lt_trans w (by decide))
end TM

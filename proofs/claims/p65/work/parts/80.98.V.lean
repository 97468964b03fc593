section R4
variable {μ ρ ν : gM} {n p : Nat} {v : Nat → Nat → Int32}
/-! four numbers read; a test -/
/-- all but the readers and the cells a ≤ i < b of K -/
def C4 (K a b : Nat) (μ ν : gM) : Prop := (∀ k i, (k ≠ 1 ∨ i < 3 ∨ 7 < i) → (k ≠ K ∨ i < a ∨ b ≤ i) → ν.1 k i = μ.1 k i) ∧ ν.2 = μ.2
def M4 (K a b : Nat) (μ ν : gM) : Prop := (∀ k i, (k ≠ 60 ∨ i < 12 ∨ 16 < i) → (k ≠ K ∨ i < a ∨ b ≤ i) → ν.1 k i = μ.1 k i) ∧ ∀ k i, (k ≠ 60 ∨ i ≠ 15) → ν.2 k i = μ.2 k i
theorem C4.rf (K a b : Nat) (μ : gM) : C4 K a b μ μ := ⟨fun _ _ _ _ => rfl, rfl⟩
theorem M4.rf (K a b : Nat) (μ : gM) : M4 K a b μ μ := ⟨fun _ _ _ _ => rfl, fun _ _ _ => rfl⟩
theorem C4.tr {K a b c d : Nat} {μ ν ρ : gM} (h : C4 K a b μ ν) (h2 : C4 K c d ν ρ) (hc : a ≤ c ∧ d ≤ b) : C4 K a b μ ρ := ⟨fun k i q r => (h2.1 k i q (by omega)).trans (h.1 k i q r), h2.2.trans h.2⟩
theorem M4.tr {K a b c d : Nat} {μ ν ρ : gM} (h : M4 K a b μ ν) (h2 : M4 K c d ν ρ) (hc : a ≤ c ∧ d ≤ b) : M4 K a b μ ρ := ⟨fun k i q r => (h2.1 k i q (by omega)).trans (h.1 k i q r), fun k i q => (h2.2 k i q).trans (h.2 k i q)⟩
theorem C4.af {K a b : Nat} {μ ν ρ : gM} (h : C4 K a b μ ν) (F : AF ν ρ) : C4 K a b μ ρ := ⟨fun k i q r => (F.1 k i q).trans (h.1 k i q r), F.2.trans h.2⟩
theorem M4.mf {K a b : Nat} {μ ν ρ : gM} (h : M4 K a b μ ν) (F : MF ν ρ) : M4 K a b μ ρ := ⟨fun k i q r => (F.1 k i q).trans (h.1 k i q r), fun k i q => (F.2 k i q).trans (h.2 k i q)⟩
theorem C4.xsi {K a b i : Nat} {x : Int32} (h : C4 K a b μ ν) (hi : a ≤ i ∧ i < b) : C4 K a b μ (si ν K i x) := ⟨fun k j q r => by
  show (if k = K ∧ j = i then x else ν.1 k j) = _
  rw [if_neg (by omega)]; exact h.1 k j q r, h.2⟩
theorem M4.xsi {K a b i : Nat} {x : Int32} (h : M4 K a b μ ν) (hi : a ≤ i ∧ i < b) : M4 K a b μ (si ν K i x) := ⟨fun k j q r => by
  show (if k = K ∧ j = i then x else ν.1 k j) = _
  rw [if_neg (by omega)]; exact h.1 k j q r, h.2⟩
theorem C4.kc {K a b : Nat} (h : C4 K a b μ ν) (hK : 47 ≤ K ∧ K < 60) : KC μ ν := ⟨fun k i q r => h.1 k i (by omega) (by omega), h.2⟩
theorem M4.km {K a b : Nat} (h : M4 K a b μ ν) (hK : K = 62 ∨ K = 67) : KM μ ν := ⟨fun k i q r s => h.1 k i (by omega) (by omega), h.2⟩
theorem sc01 {i : Nat} (hi : i < 4) : (sc 1 i).toInt ≤ 9999999 ∧ ∀ x, inR (sc 0 i).toInt (sc 1 i).toInt x → gdN i x := by
  match i, hi with
  | 0, _ => exact ⟨by decide +kernel, fun x h => by rw [show (sc 0 0).toInt = 0 by decide +kernel, show (sc 1 0).toInt = 40000 by decide +kernel] at h; exact h⟩
  | 1, _ => exact ⟨by decide +kernel, fun x h => by rw [show (sc 0 1).toInt = 0 by decide +kernel, show (sc 1 1).toInt = 40000 by decide +kernel] at h; exact h⟩
  | 2, _ => exact ⟨by decide +kernel, fun x h => by rw [show (sc 0 2).toInt = 1 by decide +kernel, show (sc 1 2).toInt = 100 by decide +kernel] at h; exact h⟩
  | 3, _ => exact ⟨by decide +kernel, fun x h => by rw [show (sc 0 3).toInt = 1 by decide +kernel, show (sc 1 3).toInt = 100 by decide +kernel] at h; exact h⟩
def b4 (K sz : Nat) (x2 : Int32) (x3 : Int32) (μ : gM) : Option ((Int32 × gM) ⊕ ((gM) ⊕ (Bool × gM))) :=
  if ((4 : Int32) ≤ x3) then some (.inr (.inl μ)) else gchk (gIn x3 4) (gchk (gIn x3 4) (Option.bind (f_X4_isIntegerIn (sc 0 x3.toNatClampNeg) (sc 1 x3.toNatClampNeg) μ) (fun q4 => if ((b2i q4.1) = 0) then some (.inr (.inr (false, q4.2))) else gchk (gIn (x2 + x3) sz) (Option.bind (f_X4_advance (si q4.2 K (x2 + x3).toNatClampNeg (gi q4.2 1 7))) (fun q7 => some (.inl ((x3 + (1 : Int32)), q7)))))))
def f4 (K sz : Nat) (p2 : Int32) (μ : gM) : Option (Bool × gM) :=
  Option.bind (gloop (fun t => b4 K sz p2 t.1 t.2) gFuel ((0 : Int32), μ)) (fun q8 => Sum.elim (fun t9 => some (true, t9)) (fun x => some x) q8)
theorem f4_57 (x : Int32) (μ : gM) : f_X4_readFour_57 x μ = f4 57 640 x μ := rfl
theorem f4_59 (x : Int32) (μ : gM) : f_X4_readFour_59 x μ = f4 59 48 x μ := rfl
theorem gl_s {σ τ : Type} {body : σ → Option (σ ⊕ τ)} {f : Nat} {s t : σ} (hf : 0 < f) (h : body s = some (.inl t)) : gloop body f s = gloop body (f - 1) t := by
  obtain ⟨f, rfl⟩ : ∃ g, f = g + 1 := ⟨f - 1, by omega⟩
  show (body s).bind _ = _
  rw [h]; rfl
theorem gl_e {σ τ : Type} {body : σ → Option (σ ⊕ τ)} {f : Nat} {s : σ} {r : τ} (hf : 0 < f) (h : body s = some (.inr r)) : gloop body f s = some r := by
  obtain ⟨f, rfl⟩ : ∃ g, f = g + 1 := ⟨f - 1, by omega⟩
  show (body s).bind _ = _
  rw [h]; rfl
end R4

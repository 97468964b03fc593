/-! four numbers read; a test -/
section R4
variable {μ ρ ν : gM} {n p : Nat} {v : Nat → Nat → Int32}
/-- all but the readers and the cells a ≤ i < b of K -/
def C4 (K a b : Nat) (μ ν : gM) : Prop := (∀ k i, (k ≠ 1 ∨ i < 3 ∨ 7 < i) → (k ≠ K ∨ i < a ∨ b ≤ i) → ν.1 k i = μ.1 k i) ∧ ν.2 = μ.2
def M4 (K a b : Nat) (μ ν : gM) : Prop := (∀ k i, (k ≠ 60 ∨ i < 12 ∨ 16 < i) → (k ≠ K ∨ i < a ∨ b ≤ i) → ν.1 k i = μ.1 k i) ∧ ∀ k i, (k ≠ 60 ∨ i ≠ 15) → ν.2 k i = μ.2 k i
theorem C4.rf (K a b : Nat) (μ : gM) : C4 K a b μ μ := ⟨fun _ _ _ _ => rfl, rfl⟩
theorem M4.rf (K a b : Nat) (μ : gM) : M4 K a b μ μ := ⟨fun _ _ _ _ => rfl, fun _ _ _ => rfl⟩
theorem C4.tr {K a b c d : Nat} {μ ν ρ : gM} (h : C4 K a b μ ν) (h2 : C4 K c d ν ρ) (hc : a ≤ c ∧ d ≤ b) : C4 K a b μ ρ := ⟨fun k i q r => (h2.1 k i q (by omega)).trans (h.1 k i q r), h2.2.trans h.2⟩
theorem M4.tr {K a b c d : Nat} {μ ν ρ : gM} (h : M4 K a b μ ν) (h2 : M4 K c d ν ρ) (hc : a ≤ c ∧ d ≤ b) : M4 K a b μ ρ := ⟨fun k i q r => (h2.1 k i q (by omega)).trans (h.1 k i q r), fun k i q => (h2.2 k i q).trans (h.2 k i q)⟩
theorem C4.af {K a b : Nat} {μ ν ρ : gM} (h : C4 K a b μ ν) (F : AF ν ρ) : C4 K a b μ ρ := ⟨fun k i q r => (F.1 k i q).trans (h.1 k i q r), F.2.trans h.2⟩
theorem M4.mf {K a b : Nat} {μ ν ρ : gM} (h : M4 K a b μ ν) (F : MF ν ρ) : M4 K a b μ ρ := ⟨fun k i q r => (F.1 k i q).trans (h.1 k i q r), fun k i q => (F.2 k i q).trans (h.2 k i q)⟩
theorem C4.xsi {K a b i : Nat} {x : Int32} (h : C4 K a b μ ν) (hi : a ≤ i ∧ i < b) : C4 K a b μ (si ν K i x) := ⟨fun k j q r => by
  show (if k = K ∧ j = i then x else ν.1 k j) = _
  rw [if_neg (by omega)]; exact h.1 k j q r, h.2⟩
theorem M4.xsi {K a b i : Nat} {x : Int32} (h : M4 K a b μ ν) (hi : a ≤ i ∧ i < b) : M4 K a b μ (si ν K i x) := ⟨fun k j q r => by
  show (if k = K ∧ j = i then x else ν.1 k j) = _
  rw [if_neg (by omega)]; exact h.1 k j q r, h.2⟩
theorem C4.kc {K a b : Nat} (h : C4 K a b μ ν) (hK : 47 ≤ K ∧ K < 60) : KC μ ν := ⟨fun k i q r => h.1 k i (by omega) (by omega), h.2⟩
theorem M4.km {K a b : Nat} (h : M4 K a b μ ν) (hK : K = 62 ∨ K = 67) : KM μ ν := ⟨fun k i q r s => h.1 k i (by omega) (by omega), h.2⟩
theorem sc01 {i : Nat} (hi : i < 4) : (sc 1 i).toInt ≤ 9999999 ∧ ∀ x, inR (sc 0 i).toInt (sc 1 i).toInt x → gdN i x := by
  match i, hi with
  | 0, _ => exact ⟨by decide +kernel, fun x h => by rw [show (sc 0 0).toInt = 0 by decide +kernel, show (sc 1 0).toInt = 40000 by decide +kernel] at h; exact h⟩
  | 1, _ => exact ⟨by decide +kernel, fun x h => by rw [show (sc 0 1).toInt = 0 by decide +kernel, show (sc 1 1).toInt = 40000 by decide +kernel] at h; exact h⟩
  | 2, _ => exact ⟨by decide +kernel, fun x h => by rw [show (sc 0 2).toInt = 1 by decide +kernel, show (sc 1 2).toInt = 100 by decide +kernel] at h; exact h⟩
  | 3, _ => exact ⟨by decide +kernel, fun x h => by rw [show (sc 0 3).toInt = 1 by decide +kernel, show (sc 1 3).toInt = 100 by decide +kernel] at h; exact h⟩
def b4 (K sz : Nat) (x2 : Int32) (x3 : Int32) (μ : gM) : Option ((Int32 × gM) ⊕ ((gM) ⊕ (Bool × gM))) :=
  if ((4 : Int32) ≤ x3) then some (.inr (.inl μ)) else gchk (gIn x3 4) (gchk (gIn x3 4) (Option.bind (f_X4_isIntegerIn (sc 0 x3.toNatClampNeg) (sc 1 x3.toNatClampNeg) μ) (fun q4 => if ((b2i q4.1) = 0) then some (.inr (.inr (false, q4.2))) else gchk (gIn (x2 + x3) sz) (Option.bind (f_X4_advance (si q4.2 K (x2 + x3).toNatClampNeg (gi q4.2 1 7))) (fun q7 => some (.inl ((x3 + (1 : Int32)), q7)))))))
def f4 (K sz : Nat) (p2 : Int32) (μ : gM) : Option (Bool × gM) :=
  Option.bind (gloop (fun t => b4 K sz p2 t.1 t.2) gFuel ((0 : Int32), μ)) (fun q8 => Sum.elim (fun t9 => some (true, t9)) (fun x => some x) q8)
theorem f4_57 (x : Int32) (μ : gM) : f_X4_readFour_57 x μ = f4 57 640 x μ := rfl
theorem f4_59 (x : Int32) (μ : gM) : f_X4_readFour_59 x μ = f4 59 48 x μ := rfl
theorem rf4 {α : Type} {K sz cm bC bM : Nat} (hK : 47 ≤ K ∧ K < 60) (hcm : cm = 62 ∨ cm = 67) (hsz : bC + 4 ≤ sz ∧ sz < 1000) (M : Nat → gM → Option α) (E : gM → Option α)
    (h1 : ∀ i ρ x ρ2, i < 4 → f_X8_readInteger (sc 0 i) (sc 1 i) ρ = some (x, ρ2) → gi ρ2 60 17 = 0 → M i ρ = M (i + 1) (si ρ2 cm (bM + i) x))
    (h2 : ∀ i ρ x ρ2, i < 4 → f_X8_readInteger (sc 0 i) (sc 1 i) ρ = some (x, ρ2) → gi ρ2 60 17 ≠ 0 → M i ρ = E ρ2) (R : RD n p μ ρ) :
    (∃ ν ρ2 p2, f4 K sz (nI bC) μ = some (true, ν) ∧ M 0 ρ = M 4 ρ2 ∧ p ≤ p2 ∧ RD n p2 ν ρ2 ∧ C4 K bC (bC + 4) μ ν ∧ M4 cm bM (bM + 4) ρ ρ2 ∧ ∀ j, j < 4 → gi ν K (bC + j) = gi ρ2 cm (bM + j) ∧ gdN j (gi ν K (bC + j))) ∨
    (∃ ν ρ2 q c, c < 0 ∧ f4 K sz (nI bC) μ = some (false, si ν 1 8 c) ∧ M 0 ρ = E (mE c ρ2) ∧ RD n q ν ρ2 ∧ C4 K bC (bC + 4) μ ν ∧ M4 cm bM (bM + 4) ρ ρ2) := by
  obtain ⟨r, g, Z⟩ := gloop_rel (body := fun t => b4 K sz (nI bC) t.1 t.2) (fun i t => ∃ μi ρi q, t = (nI i, μi) ∧ M 0 ρ = M i ρi ∧ p ≤ q ∧ RD n q μi ρi ∧ C4 K bC (bC + 4) μ μi ∧ M4 cm bM (bM + 4) ρ ρi ∧ ∀ j, j < i → gi μi K (bC + j) = gi ρi cm (bM + j) ∧ gdN j (gi μi K (bC + j)))
    (fun r => (∃ ν ρ2 p2, r = Sum.inl ν ∧ M 0 ρ = M 4 ρ2 ∧ p ≤ p2 ∧ RD n p2 ν ρ2 ∧ C4 K bC (bC + 4) μ ν ∧ M4 cm bM (bM + 4) ρ ρ2 ∧ ∀ j, j < 4 → gi ν K (bC + j) = gi ρ2 cm (bM + j) ∧ gdN j (gi ν K (bC + j))) ∨
      (∃ ν ρ2 q c, c < 0 ∧ r = Sum.inr (false, si ν 1 8 c) ∧ M 0 ρ = E (mE c ρ2) ∧ RD n q ν ρ2 ∧ C4 K bC (bC + 4) μ ν ∧ M4 cm bM (bM + 4) ρ ρ2)) 4 (fun i t hi hR => by
    obtain ⟨μi, ρi, q, rfl, e, le, Ri, Fi, Gi, V⟩ := hR
    show (∃ t, b4 K sz (nI bC) (nI i) μi = _ ∧ _) ∨ ∃ r, b4 K sz (nI bC) (nI i) μi = _ ∧ _
    unfold b4
    by_cases c : i < 4
    · rw [if_neg (show ¬ (4 : Int32) ≤ nI i from nI_ge (b := 4) c (by decide)), gck c (by decide), gck c (by decide), nI_clamp (by omega), nI_add, nI_1]
      have s := sc01 c
      rcases cm_ri Ri (lo := sc 0 i) (hi := sc 1 i) s.1 with ⟨k2, rg, x2, y2⟩ | ⟨cd, x, hc, x2, y2⟩
      · left
        have gd := s.2 _ rg
        generalize hx : gi μi 1 7 = x at *
        have R2 : RD n q (si μi K (bC + i) x) ρi := Ri.c (by omega)
        obtain ⟨μ3, ρ3, p3, a3, -, a3', F3, G3, R3, le3, -, -⟩ := cm_adv R2
        have y2 := y2 ρ3 a3'
        refine ⟨(nI (i + 1), μ3), ?_, ⟨μ3, si ρ3 cm (bM + i) x, p3, rfl, ?_, by omega, R3.m (by omega), (Fi.xsi (by omega)).af F3, (Gi.mf G3).xsi (by omega), fun j hj => ?_⟩, c⟩
        · rw [x2, Option.bind_some, if_neg (show ¬ b2i true = 0 by decide)]
          show gchk (gIn (nI (bC + i)) sz) (Option.bind (f_X4_advance (si μi K (nI (bC + i)).toNatClampNeg (gi μi 1 7))) (fun q7 => some (Sum.inl (nI (i + 1), q7)))) = _
          rw [gck (by omega) (by omega), nI_clamp (by omega), hx, a3]; rfl
        · rw [e]; exact h1 i ρi x ρ3 c y2 R3.2.1
        · have k3 : ∀ j, gi μ3 K j = gi (si μi K (bC + i) x) K j := fun j => F3.1 K j (by omega)
          by_cases d : j = i
          · subst d
            rw [k3, gi_sii, gi_sii]
            exact ⟨rfl, gd⟩
          · rw [k3, gi_sij (by omega), gi_sij (by omega), show gi ρ3 cm (bM + j) = gi ρi cm (bM + j) from G3.1 cm _ (by omega)]
            exact V j (by omega)
      · right
        refine ⟨Sum.inr (false, si μi 1 8 cd), ?_, Or.inr ⟨μi, ρi, q, cd, hc, rfl, ?_, Ri, Fi, Gi⟩⟩
        · rw [x2, Option.bind_some, if_pos (show b2i false = 0 from rfl)]
        · rw [e]; exact h2 i ρi x _ c y2 (lt0 hc)
    · right
      have c : i = 4 := by omega
      subst c
      exact ⟨_, if_pos (show (4 : Int32) ≤ nI 4 by decide), Or.inl ⟨μi, ρi, q, rfl, e, le, Ri, Fi, Gi, V⟩⟩) (by unfold gFuel; omega) (s0 := ((0 : Int32), μ)) ⟨μ, ρ, p, rfl, rfl, Nat.le_refl _, R, C4.rf _ _ _ _, M4.rf _ _ _ _, fun j hj => absurd hj (Nat.not_lt_zero _)⟩
  unfold f4
  rw [g, Option.bind_some]
  rcases Z with ⟨ν, ρ2, p2, rfl, r⟩ | ⟨ν, ρ2, q, c, hc, rfl, r⟩
  · exact Or.inl ⟨ν, ρ2, p2, rfl, r⟩
  · exact Or.inr ⟨ν, ρ2, q, c, hc, rfl, r⟩
theorem gl_s {σ τ : Type} {body : σ → Option (σ ⊕ τ)} {f : Nat} {s t : σ} (hf : 0 < f) (h : body s = some (.inl t)) : gloop body f s = gloop body (f - 1) t := by
  obtain ⟨f, rfl⟩ : ∃ g, f = g + 1 := ⟨f - 1, by omega⟩
  show (body s).bind _ = _
  rw [h]; rfl
theorem gl_e {σ τ : Type} {body : σ → Option (σ ⊕ τ)} {f : Nat} {s : σ} {r : τ} (hf : 0 < f) (h : body s = some (.inr r)) : gloop body f s = some r := by
  obtain ⟨f, rfl⟩ : ∃ g, f = g + 1 := ⟨f - 1, by omega⟩
  show (body s).bind _ = _
  rw [h]; rfl
/-! a test -/
theorem ts_b {t h i : Nat} (ht : t < 6) (hh : h < 2) (hi : i < 4) : b_X8_parseTest_50 (nI (64 + 9 * t)) (nI (4 * h + i)) ρ = j_X8_parseTest_95 (nI (64 + 9 * t)) (nI (4 * h + i)) (sc 0 i) (sc 1 i) ρ := by
  unfold b_X8_parseTest_50
  rw [if_neg (show ¬ (8 : Int32) ≤ nI (4 * h + i) from nI_ge (b := 8) (by omega) (by decide)), gckb (by decide), n4, pk_rem (by omega) (by decide) (by decide), show (4 * h + i) % 4 = i by omega]
  unfold j_X8_parseTest_70 j_X8_parseTest_83
  match i, hi with
  | 0, _ =>
    rw [if_neg (show ¬ (2 : Int32) ≤ nI 0 by decide), if_neg (show ¬ (1 : Int32) = 0 by decide), if_neg (show ¬ (1 : Int32) = 0 by decide), show sc 0 0 = 0 by decide +kernel, show sc 1 0 = 40000 by decide +kernel]
  | 1, _ =>
    rw [if_neg (show ¬ (2 : Int32) ≤ nI 1 by decide), if_neg (show ¬ (1 : Int32) = 0 by decide), if_neg (show ¬ (1 : Int32) = 0 by decide), show sc 0 1 = 0 by decide +kernel, show sc 1 1 = 40000 by decide +kernel]
  | 2, _ =>
    rw [if_pos (show (2 : Int32) ≤ nI 2 by decide), if_pos rfl, if_pos rfl, show sc 0 2 = 1 by decide +kernel, show sc 1 2 = 100 by decide +kernel]
  | 3, _ =>
    rw [if_pos (show (2 : Int32) ≤ nI 3 by decide), if_pos rfl, if_pos rfl, show sc 0 3 = 1 by decide +kernel, show sc 1 3 = 100 by decide +kernel]
theorem ts_4 {t h : Nat} (ht : t < 6) (hh : h < 2) (R : RD n p μ ρ) :
    (∃ ν ρ2 p2, f_X4_readFour_59 (nI (8 * t + 4 * h)) μ = some (true, ν) ∧ gloop (fun s => b_X8_parseTest_50 (nI (64 + 9 * t)) s.1 s.2) (gFuel - 4 * h) (nI (4 * h), ρ) = gloop (fun s => b_X8_parseTest_50 (nI (64 + 9 * t)) s.1 s.2) (gFuel - (4 * h + 4)) (nI (4 * h + 4), ρ2) ∧ p ≤ p2 ∧ RD n p2 ν ρ2 ∧ C4 59 (8 * t + 4 * h) (8 * t + 4 * h + 4) μ ν ∧ M4 67 (65 + 9 * t + 4 * h) (65 + 9 * t + 4 * h + 4) ρ ρ2 ∧ ∀ j, j < 4 → gi ν 59 (8 * t + 4 * h + j) = gi ρ2 67 (65 + 9 * t + 4 * h + j) ∧ gdN j (gi ν 59 (8 * t + 4 * h + j))) ∨
    (∃ ν ρ2 q c, c < 0 ∧ f_X4_readFour_59 (nI (8 * t + 4 * h)) μ = some (false, si ν 1 8 c) ∧ gloop (fun s => b_X8_parseTest_50 (nI (64 + 9 * t)) s.1 s.2) (gFuel - 4 * h) (nI (4 * h), ρ) = some (Sum.inr (mE c ρ2)) ∧ RD n q ν ρ2 ∧ C4 59 (8 * t + 4 * h) (8 * t + 4 * h + 4) μ ν ∧ M4 67 (65 + 9 * t + 4 * h) (65 + 9 * t + 4 * h + 4) ρ ρ2) := by
  have gF : gFuel - 8 > 0 := by unfold gFuel; omega
  have key := rf4 (K := 59) (sz := 48) (cm := 67) (bC := 8 * t + 4 * h) (bM := 65 + 9 * t + 4 * h) (by omega) (by omega) (by omega) (fun i ρ => gloop (fun s => b_X8_parseTest_50 (nI (64 + 9 * t)) s.1 s.2) (gFuel - (4 * h + i)) (nI (4 * h + i), ρ)) (fun ρ => some (Sum.inr ρ)) (fun i ρ x ρ2 hi hr g => by
      show gloop _ (gFuel - (4 * h + i)) (nI (4 * h + i), ρ) = gloop _ (gFuel - (4 * h + (i + 1))) (nI (4 * h + (i + 1)), _)
      rw [gl_s (t := (nI (4 * h + i + 1), si ρ2 67 (65 + 9 * t + 4 * h + i) x)) (by omega)]
      · rw [show gFuel - (4 * h + i) - 1 = gFuel - (4 * h + (i + 1)) by omega, show 4 * h + (i + 1) = 4 * h + i + 1 by omega]
      · show b_X8_parseTest_50 (nI (64 + 9 * t)) (nI (4 * h + i)) ρ = _
        rw [ts_b ht hh hi]
        unfold j_X8_parseTest_95
        rw [hr, Option.bind_some]
        rw [if_pos g, nI_1, nI_add, gck (by omega) (by decide), nI_clamp (by omega), nI_1, show 64 + 9 * t + 1 + (4 * h + i) = 65 + 9 * t + 4 * h + i by omega]) (fun i ρ x ρ2 hi hr g => by
      show gloop _ (gFuel - (4 * h + i)) (nI (4 * h + i), ρ) = _
      refine gl_e (by omega) ?_
      show b_X8_parseTest_50 (nI (64 + 9 * t)) (nI (4 * h + i)) ρ = _
      rw [ts_b ht hh hi]
      unfold j_X8_parseTest_95
      rw [hr, Option.bind_some, if_neg g]) R
  rw [f4_59]
  exact key
end R4

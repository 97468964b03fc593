section FE
variable {μ : gM}
/-! text fed (0) -/
def xsA : Nat → Int32
  | 0 => 24
  | 1 => 16
  | 2 => 8
  | 3 => 0
  | _ => -8
theorem xsA_s : ∀ i, i < 4 → ¬ xsA i < 0 ∧ xsA i + (-8) = xsA (i + 1) := by decide +kernel
def byt (p : Int32) (j : Nat) : Int32 := vp_nar .byte ((p >>> (xsA j &&& 31)).toInt8.toInt32)
def apb (T a b : Nat) (x1 : Int32) (x2 : Int32) (μ : gM) : Option ((Int32 × gM) ⊕ (gM)) :=
  if (x2 < 0) then some (.inr μ) else gchk (gIn (gi μ a b) 1200) (some (.inl ((x2 + (-8 : Int32)), (si (si μ T (gi μ a b).toNatClampNeg (vp_nar .byte ((x1 >>> (x2 &&& 31)).toInt8.toInt32))) a b ((gi (si μ T (gi μ a b).toNatClampNeg (vp_nar .byte ((x1 >>> (x2 &&& 31)).toInt8.toInt32))) a b) + (1 : Int32))))))
def ap1 (p : Int32) (n : Nat) (g : Nat → Int32) : Nat → Int32 := fun i => if n ≤ i ∧ i < n + 4 then byt p (i - n) else g i
def APf (T a b : Nat) (μ ν : gM) : Prop := (∀ k i, k ≠ T → (k ≠ a ∨ i ≠ b) → ν.1 k i = μ.1 k i) ∧ ν.2 = μ.2
theorem APf.tr {T a b : Nat} {μ ν ρ : gM} (h : APf T a b μ ν) (h2 : APf T a b ν ρ) : APf T a b μ ρ := ⟨fun k i x y => (h2.1 k i x y).trans (h.1 k i x y), h2.2.trans h.2⟩
theorem ap_run {T a b n : Nat} (hT : a ≠ T) (hn : gi μ a b = nI n) (h : n + 4 ≤ 1200) (p : Int32) : ∃ ν, gloop (fun t => apb T a b p t.1 t.2) gFuel ((24 : Int32), μ) = some ν ∧ gi ν a b = nI (n + 4) ∧ (∀ i, gi ν T i = ap1 p n (gi μ T) i) ∧ APf T a b μ ν := by
  refine gloop_rel (body := fun t => apb T a b p t.1 t.2) (fun i t => t.1 = xsA i ∧ gi t.2 a b = nI (n + i) ∧ (∀ j, gi t.2 T j = if n ≤ j ∧ j < n + i then byt p (j - n) else gi μ T j) ∧ APf T a b μ t.2) (fun ν => gi ν a b = nI (n + 4) ∧ (∀ i, gi ν T i = ap1 p n (gi μ T) i) ∧ APf T a b μ ν) 4 (fun i t hi hR => ?_) (by unfold gFuel; omega) (s0 := (24, μ)) ⟨rfl, hn, fun j => (if_neg (by omega)).symm, ⟨fun _ _ _ _ => rfl, rfl⟩⟩
  obtain ⟨x, ν⟩ := t
  obtain ⟨a1, B, G, F⟩ := hR
  have a1 : x = xsA i := a1
  subst a1
  replace B : gi ν a b = nI (n + i) := B
  replace G : ∀ j, gi ν T j = if n ≤ j ∧ j < n + i then byt p (j - n) else gi μ T j := G
  replace F : APf T a b μ ν := F
  show (∃ t, apb T a b p (xsA i) ν = _ ∧ _) ∨ ∃ r, apb T a b p (xsA i) ν = _ ∧ _
  unfold apb
  by_cases c : i < 4
  · left
    obtain ⟨x1, x2⟩ := xsA_s i c
    rw [if_neg x1, B]
    simp (disch := omega) only [gck, nI_clamp]
    rw [gi_sik hT, B, nI_1, x2]
    refine ⟨_, rfl, ⟨rfl, gi_sii, fun j => ?_, ⟨fun k q h1 h2 => ?_, F.2⟩⟩, c⟩
    · show gi (si (si ν T (n + i) _) a b _) T j = _
      rw [gi_sik (fun w => hT w.symm), gi_si]
      by_cases d : j = n + i
      · subst d
        rw [if_pos ⟨rfl, rfl⟩, if_pos (by omega), Nat.add_sub_cancel_left]
        rfl
      · rw [if_neg (fun w => d w.2), G j]
        by_cases d2 : n ≤ j ∧ j < n + i
        · rw [if_pos d2, if_pos (by omega)]
        · rw [if_neg d2, if_neg (by omega)]
    · show (si (si ν T (n + i) _) a b _).1 k q = _
      simp only [si]
      rw [if_neg (by omega), if_neg (by omega)]
      exact F.1 k q h1 h2
  · right
    have e : i = 4 := by omega
    subst e
    exact ⟨_, if_pos (show (-8 : Int32) < 0 by decide), B, G, F⟩
theorem ap1_c {p : Int32} {n : Nat} {g h : Nat → Int32} (H : ∀ i, i < n → g i = h i) : ∀ i, i < n + 4 → ap1 p n g i = ap1 p n h i := fun i hi => by
  unfold ap1
  by_cases c : n ≤ i ∧ i < n + 4
  · rw [if_pos c, if_pos c]
  · rw [if_neg c, if_neg c]; exact H i (by omega)
theorem byt_r (p : Int32) (j : Nat) : inR (-128) 127 (byt p j) := by
  have e : byt p j = (((p >>> (xsA j &&& 31)).toInt8.toInt32).toInt8).toInt32 := rfl
  rw [e]
  unfold inR
  rw [Int8.toInt_toInt32]
  exact ⟨Int8.le_toInt _, Int.lt_add_one_iff.mp (Int8.toInt_lt _)⟩
theorem ap1_r {p : Int32} {n : Nat} {g : Nat → Int32} (H : ∀ i, i < n → inR (-128) 127 (g i)) : ∀ i, i < n + 4 → inR (-128) 127 (ap1 p n g i) := fun i hi => by
  unfold ap1
  by_cases c : n ≤ i ∧ i < n + 4
  · rw [if_pos c]; exact byt_r p _
  · rw [if_neg c]; exact H i (by omega)
def ap5 (p1 p2 p3 p4 p5 : Int32) (n : Nat) (g : Nat → Int32) : Nat → Int32 := ap1 p5 (n + 4 + 4 + 4 + 4) (ap1 p4 (n + 4 + 4 + 4) (ap1 p3 (n + 4 + 4) (ap1 p2 (n + 4) (ap1 p1 n g))))
theorem ap5_r {T a b n : Nat} {f : Int32 → gM → Option gM} (hf : ∀ p μ n, gi μ a b = nI n → n + 4 ≤ 1200 → ∃ ν, f p μ = some ν ∧ gi ν a b = nI (n + 4) ∧ (∀ i, gi ν T i = ap1 p n (gi μ T) i) ∧ APf T a b μ ν) (hn : gi μ a b = nI n) (h : n + 20 ≤ 1200) (p1 p2 p3 p4 p5 : Int32) : ∃ ν, Option.bind (f p1 μ) (fun q2 => Option.bind (f p2 q2) (fun q3 => Option.bind (f p3 q3) (fun q4 => Option.bind (f p4 q4) (fun q5 => Option.bind (f p5 q5) (fun q6 => some ((gi q6 a b), q6)))))) = some (nI (n + 20), ν) ∧ gi ν a b = nI (n + 20) ∧ (∀ i, gi ν T i = ap5 p1 p2 p3 p4 p5 n (gi μ T) i) ∧ APf T a b μ ν := by
  obtain ⟨ν1, e1, B1, G1, F1⟩ := hf p1 μ n hn (by omega)
  obtain ⟨ν2, e2, B2, G2, F2⟩ := hf p2 ν1 _ B1 (by omega)
  obtain ⟨ν3, e3, B3, G3, F3⟩ := hf p3 ν2 _ B2 (by omega)
  obtain ⟨ν4, e4, B4, G4, F4⟩ := hf p4 ν3 _ B3 (by omega)
  obtain ⟨ν5, e5, B5, G5, F5⟩ := hf p5 ν4 _ B4 (by omega)
  refine ⟨ν5, ?_, B5, fun i => ?_, (((F1.tr F2).tr F3).tr F4).tr F5⟩
  · rw [e1, Option.bind_some, e2, Option.bind_some, e3, Option.bind_some, e4, Option.bind_some, e5, Option.bind_some, B5]
  · rw [G5, show gi ν4 T = _ from funext G4, show gi ν3 T = _ from funext G3, show gi ν2 T = _ from funext G2, show gi ν1 T = _ from funext G1]
    rfl
end FE

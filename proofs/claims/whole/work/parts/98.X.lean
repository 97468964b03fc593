/-! the setups of a line -/
section SLN
variable {μ ρ ν : gM} {n p k : Nat} {v : Nat → Nat → Int32}
def lo4 : Nat → Int32
  | 0 => 0
  | 1 => 0
  | _ => 1
def hi4 : Nat → Int32
  | 0 => 40000
  | 1 => 40000
  | _ => 100
def psK (x1 x2 : Int32) : Nat → gM → Option gM
  | 0, ρ => some ρ
  | j + 1, ρ => Option.bind (f_X8_setupAt x1 x2 (nI (3 - j)) ρ) (fun a => Option.bind (f_X8_readNumber a (lo4 (3 - j)) (hi4 (3 - j)) ρ) (fun q => psK x1 x2 j q))
theorem psK_s (x1 x2 : Int32) (j : Nat) (ρ : gM) : psK x1 x2 (j + 1) ρ = Option.bind (f_X8_readNumber ((((62 : Int32) + ((32 : Int32) * x1)) + ((4 : Int32) * x2)) + nI (3 - j)) (lo4 (3 - j)) (hi4 (3 - j)) ρ) (fun q => psK x1 x2 j q) := rfl
theorem lh4 {i : Nat} (hi : i < 4) : lo4 i = sc 0 i ∧ hi4 i = sc 1 i := by
  match i, hi with
  | 0, _ => exact ⟨by decide +kernel, by decide +kernel⟩
  | 1, _ => exact ⟨by decide +kernel, by decide +kernel⟩
  | 2, _ => exact ⟨by decide +kernel, by decide +kernel⟩
  | 3, _ => exact ⟨by decide +kernel, by decide +kernel⟩
theorem m_rnuE (h : gi ρ 60 17 ≠ 0) (a lo hi : Int32) : f_X8_readNumber a lo hi ρ = some ρ := by
  obtain ⟨x, hx⟩ := m_riE h lo hi
  unfold f_X8_readNumber
  rw [hx, Option.bind_some, if_neg h]
theorem psK_E (h : gi ρ 60 17 ≠ 0) (x1 x2 : Int32) : ∀ j, psK x1 x2 j ρ = some ρ
  | 0 => rfl
  | j + 1 => by
    rw [psK_s, m_rnuE h, Option.bind_some]
    exact psK_E h x1 x2 j
theorem psK_bad {x c : Int32} (hc : c < 0) (hr : f_X8_readInteger (0 : Int32) (40000 : Int32) ρ = some (x, mE c ρ)) (x1 x2 : Int32) : psK x1 x2 4 ρ = some (mE c ρ) := by
  rw [psK_s]
  show Option.bind (f_X8_readNumber _ (0 : Int32) (40000 : Int32) ρ) (fun q => psK x1 x2 3 q) = _
  unfold f_X8_readNumber
  rw [hr, Option.bind_some, if_neg (lt0 hc), Option.bind_some]
  exact psK_E (lt0 hc) x1 x2 3
theorem m_riB (g : gi ρ 60 17 = 0) (h : gi ρ 60 14 ≠ 2) (lo hi : Int32) : ∃ x, f_X8_readInteger lo hi ρ = some (x, mE (-11) ρ) := by
  have g2 := lt0 (ρ := ρ) (c := -11) (by decide)
  obtain ⟨q, hq⟩ := m_inR (gi (mE (-11) ρ) 60 16) lo hi (mE (-11) ρ)
  unfold f_X8_readInteger j_X8_readInteger_14
  rw [if_neg h, m_ck0 g, Option.bind_some, hq, Option.bind_some, m_ckE g2, Option.bind_some, m_agE g2, Option.bind_some]
  exact ⟨_, rfl⟩
theorem m_riC (g : gi ρ 60 17 = 0) (h : gi ρ 60 14 = 2) {lo hi : Int32} (d : f_X8_inRange (gi ρ 60 16) lo hi ρ = some false) : ∃ x, f_X8_readInteger lo hi ρ = some (x, mE (-12) ρ) := by
  have g2 := lt0 (ρ := ρ) (c := -12) (by decide)
  unfold f_X8_readInteger j_X8_readInteger_14
  rw [if_pos h, m_ck1, Option.bind_some, d, Option.bind_some, show b2i false = 0 from rfl, m_ck0 g, Option.bind_some, m_agE g2, Option.bind_some]
  exact ⟨_, rfl⟩
theorem ps_47 (g : gi ρ 60 17 = 0) (x1 x2 : Int32) : j_X8_parseSetup_47 x1 x2 1 ρ = psK x1 x2 4 ρ := by
  unfold j_X8_parseSetup_47
  rw [m_ck1, Option.bind_some, if_pos g]
  rfl
theorem ps_eq (R : RD n p μ ρ) {s : Nat} (hs : s < 8) (x1 : Int32) : f_X8_parseSetup x1 (nI s) ρ = psK x1 (nI s) 4 ρ := by
  have g := R.2.1
  have kd := R.kd
  have c8 : ¬ (8 : Int32) ≤ nI s := nI_ge (b := 8) hs (by decide)
  unfold f_X8_parseSetup
  rcases cm_int R (lo := 0) (hi := 40000) (by decide) with ⟨k2, -, -, -, d⟩ | ⟨c, hc, -, ⟨k2, e⟩ | ⟨k2, e, d⟩⟩
  · rw [kd, if_pos k2]
    unfold j_X8_parseSetup_14
    rw [m_ck1, Option.bind_some, d, Option.bind_some, show b2i true = 1 from rfl, m_ck1, Option.bind_some, if_neg c8]
    exact ps_47 g _ _
  · obtain ⟨x, hx⟩ := m_riB g (by rw [kd]; exact k2) 0 40000
    have h17 := lt0 (ρ := ρ) (c := -11) (by decide)
    obtain ⟨q, hq⟩ := m_inR (gi (mE (-11) ρ) 60 16) 0 40000 (mE (-11) ρ)
    rw [psK_bad (by decide) hx, kd, if_neg k2]
    unfold j_X8_parseSetup_14
    rw [m_ck0 g, Option.bind_some, hq, Option.bind_some, m_ckE h17, Option.bind_some, if_neg c8]
    unfold j_X8_parseSetup_47
    rw [m_ckE h17, Option.bind_some, if_neg h17]
  · obtain ⟨x, hx⟩ := m_riC g (kd.trans k2) d
    have h17 := lt0 (ρ := ρ) (c := -12) (by decide)
    rw [psK_bad (by decide) hx, kd, if_pos k2]
    unfold j_X8_parseSetup_14
    rw [m_ck1, Option.bind_some, d, Option.bind_some, show b2i false = 0 from rfl, m_ck0 g, Option.bind_some, if_neg c8]
    unfold j_X8_parseSetup_47
    rw [m_ckE h17, Option.bind_some, if_neg h17]
/-- what is no number, or one too many: an error -/
theorem ps_no (R : RD n p μ ρ) (h : gi μ 1 5 ≠ 2) (x1 x2 : Int32) : f_X8_parseSetup x1 x2 ρ = some (mE (-11) ρ) := by
  have g := R.2.1
  have kd := R.kd
  have h17 := lt0 (ρ := ρ) (c := -11) (by decide)
  obtain ⟨q, hq⟩ := m_inR (gi (mE (-11) ρ) 60 16) 0 40000 (mE (-11) ρ)
  unfold f_X8_parseSetup
  rw [kd, if_neg h]
  unfold j_X8_parseSetup_14
  rw [m_ck0 g, Option.bind_some, hq, Option.bind_some, m_ckE h17, Option.bind_some]
  unfold j_X8_parseSetup_47
  rw [m_ckE h17, Option.bind_some, if_neg h17, m_ckE h17, Option.bind_some, if_neg h17, ite_self]
theorem ps_8 (R : RD n p μ ρ) (h : gi μ 1 5 = 2) (x1 : Int32) : ∃ c, c < 0 ∧ f_X8_parseSetup x1 (nI 8) ρ = some (mE c ρ) ∧ ((f_X4_isIntegerIn 0 40000 μ = some (true, μ) ∧ c = -15) ∨ f_X4_isIntegerIn 0 40000 μ = some (false, si μ 1 8 c)) := by
  have g := R.2.1
  have kd := R.kd
  have c8 : (8 : Int32) ≤ nI 8 := by decide
  unfold f_X8_parseSetup
  rcases cm_int R (lo := 0) (hi := 40000) (by decide) with ⟨k2, -, i, -, d⟩ | ⟨c, hc, i, ⟨k2, e⟩ | ⟨k2, e, d⟩⟩
  · have h17 := lt0 (ρ := ρ) (c := -15) (by decide)
    refine ⟨-15, by decide, ?_, Or.inl ⟨i, rfl⟩⟩
    rw [kd, if_pos k2]
    unfold j_X8_parseSetup_14
    rw [m_ck1, Option.bind_some, d, Option.bind_some, show b2i true = 1 from rfl, m_ck1, Option.bind_some, if_pos c8]
    unfold j_X8_parseSetup_47
    rw [m_ck0 g, Option.bind_some, if_neg h17]
  · exact absurd h k2
  · have h17 := lt0 (ρ := ρ) (c := -12) (by decide)
    subst e
    refine ⟨-12, by decide, ?_, Or.inr i⟩
    rw [kd, if_pos k2]
    unfold j_X8_parseSetup_14
    rw [m_ck1, Option.bind_some, d, Option.bind_some, show b2i false = 0 from rfl, m_ck0 g, Option.bind_some, if_pos c8]
    unfold j_X8_parseSetup_47
    rw [m_ckE h17, Option.bind_some, if_neg h17]
theorem ln_4 (hk : k < 20) {s : Nat} (hs : s < 8) (R : RD n p μ ρ) :
    (∃ ν ρ2 p2, f_X4_readFour_57 (nI (32 * k + 4 * s)) μ = some (true, ν) ∧ psK (nI k) (nI s) 4 ρ = some ρ2 ∧ p ≤ p2 ∧ RD n p2 ν ρ2 ∧ C4 57 (32 * k + 4 * s) (32 * k + 4 * s + 4) μ ν ∧ M4 62 (62 + (32 * k + 4 * s)) (62 + (32 * k + 4 * s) + 4) ρ ρ2 ∧ ∀ j, j < 4 → gi ν 57 (32 * k + 4 * s + j) = gi ρ2 62 (62 + (32 * k + 4 * s) + j) ∧ gdN j (gi ν 57 (32 * k + 4 * s + j))) ∨
    (∃ ν ρ2 q c, c < 0 ∧ f_X4_readFour_57 (nI (32 * k + 4 * s)) μ = some (false, si ν 1 8 c) ∧ psK (nI k) (nI s) 4 ρ = some (mE c ρ2) ∧ RD n q ν ρ2 ∧ C4 57 (32 * k + 4 * s) (32 * k + 4 * s + 4) μ ν ∧ M4 62 (62 + (32 * k + 4 * s)) (62 + (32 * k + 4 * s) + 4) ρ ρ2) := by
  have key := rf4 (K := 57) (sz := 640) (cm := 62) (bC := 32 * k + 4 * s) (bM := 62 + (32 * k + 4 * s)) (by omega) (by omega) (by omega) (fun i ρ => psK (nI k) (nI s) (4 - i) ρ) (fun ρ => some ρ) (fun i ρ x ρ2 hi hr g => by
      show psK (nI k) (nI s) (4 - i) ρ = psK (nI k) (nI s) (4 - (i + 1)) _
      have l := lh4 hi
      rw [show 4 - i = (3 - i) + 1 by omega, psK_s, show 3 - (3 - i) = i by omega, l.1, l.2, show 4 - (i + 1) = 3 - i by omega]
      unfold f_X8_readNumber
      rw [hr, Option.bind_some, if_pos g, n62, n32, n4, pk_mul, nI_add, pk_mul, nI_add, nI_add, gck (by omega) (by decide), nI_clamp (by omega), Option.bind_some, show 62 + 32 * k + 4 * s + i = 62 + (32 * k + 4 * s) + i by omega]) (fun i ρ x ρ2 hi hr g => by
      show psK (nI k) (nI s) (4 - i) ρ = _
      have l := lh4 hi
      rw [show 4 - i = (3 - i) + 1 by omega, psK_s, show 3 - (3 - i) = i by omega, l.1, l.2]
      unfold f_X8_readNumber
      rw [hr, Option.bind_some, if_neg g, Option.bind_some]
      exact psK_E g _ _ _) R
  rw [f4_57]
  exact key
def LC (k : Nat) (μ ν : gM) : Prop := (∀ K i, (K ≠ 1 ∨ i < 3 ∨ 7 < i) → (K ≠ 57 ∨ i < 32 * k ∨ 32 * k + 32 ≤ i) → (K ≠ 56 ∨ i ≠ k) → ν.1 K i = μ.1 K i) ∧ ν.2 = μ.2
theorem LC.c4 {a b : Nat} (h : LC k μ ν) (h2 : C4 57 a b ν ρ) (hc : 32 * k ≤ a ∧ b ≤ 32 * k + 32) : LC k μ ρ := ⟨fun K i q r s => (h2.1 K i q (by omega)).trans (h.1 K i q r s), h2.2.trans h.2⟩
theorem LC.x {x : Int32} (h : LC k μ ν) : LC k μ (si ν 56 k x) := ⟨fun K i q r s => by
  show (if K = 56 ∧ i = k then x else ν.1 K i) = _
  rw [if_neg (by omega)]; exact h.1 K i q r s, h.2⟩
theorem LC.kc (h : LC k μ ν) : KC μ ν := ⟨fun K i q r => h.1 K i (by omega) (by omega) (by omega), h.2⟩
theorem c_placeb (hk : k < 20) {s : Nat} (hs : s < 9) : f_X3b_place (nI k) (nI s) μ = some (nI (32 * k + 4 * s)) := by
  unfold f_X3b_place
  rw [n8, pk_mul, nI_add, n4, pk_mul]
  exact congrArg (fun q => some (nI q)) (by omega)
theorem lb_go {s : Nat} (hs : s = 0 ∨ gi ρ 60 14 = 2) (g : gi ρ 60 17 = 0) (h8 : s < 9) (x1 a b l : Int32) : b_X8_parseLine_50 x1 a b l (nI s) ρ = Option.bind (f_X8_parseSetup x1 (nI s) ρ) (fun q => some (Sum.inl (nI (s + 1), q))) := by
  unfold b_X8_parseLine_50
  rw [if_pos g, nI_1]
  by_cases c : s = 0
  · rw [if_pos (show nI s = 0 by rw [c]; rfl)]
  · rw [if_neg (show ¬ nI s = 0 from nI_ne0 (by omega) (by omega)), if_neg (show ¬ gi ρ 60 14 = 3 by rcases hs with h | h; exact absurd h c; rw [h]; decide)]
theorem lb_no {s : Nat} (hs : 1 ≤ s ∧ s < 9) (h3 : gi ρ 60 14 ≠ 3) (g : gi ρ 60 17 = 0) (x1 a b l : Int32) : b_X8_parseLine_50 x1 a b l (nI s) ρ = Option.bind (f_X8_parseSetup x1 (nI s) ρ) (fun q => some (Sum.inl (nI (s + 1), q))) := by
  unfold b_X8_parseLine_50
  rw [if_pos g, nI_1, if_neg (show ¬ nI s = 0 from nI_ne0 (by omega) (by omega)), if_neg h3]
theorem lb_E (h17 : gi ρ 60 17 ≠ 0) (x1 a b l s : Int32) : b_X8_parseLine_50 x1 a b l s ρ = some (Sum.inr (s, ρ)) := by
  unfold b_X8_parseLine_50
  rw [if_neg h17]
/-- where both sides stand behind s setups -/
def LnR (n p k : Nat) (a b l : Int32) (μ5 ρ4 : gM) (s : Nat) (μs : gM) : Prop := ∃ ρs q, gloop (fun t => b_X8_parseLine_50 (nI k) a b l t.1 t.2) gFuel ((0 : Int32), ρ4) = gloop (fun t => b_X8_parseLine_50 (nI k) a b l t.1 t.2) (gFuel - s) (nI s, ρs) ∧ p ≤ q ∧ RD n q μs ρs ∧ LC k μ5 μs ∧ M4 62 (62 + 32 * k) (62 + 32 * k + 32) ρ4 ρs ∧ (1 ≤ s → gi μs 56 k = nI s) ∧
  ∀ j, j < s → ∀ w, w < 4 → gi μs 57 (32 * k + 4 * j + w) = gi ρs 62 (62 + (32 * k + 4 * j + w)) ∧ gdN w (gi μs 57 (32 * k + 4 * j + w))
theorem ln_loop (hk : k < 20) {a b l : Int32} {μ5 ρ4 : gM} (R : RD n p μ5 ρ4) : ∃ r, gloop (fun t => b_X4_readLine_152 (nI k) t.1 t.2) gFuel ((0 : Int32), μ5) = some r ∧
    ((∃ ν s, 1 ≤ s ∧ s ≤ 8 ∧ LnR n p k a b l μ5 ρ4 s ν ∧ ((r = Sum.inl ν ∧ s = 8) ∨ (r = Sum.inr (true, ν) ∧ gi ν 1 5 ≠ 2))) ∨
     (∃ ν ρ' q c x, c < 0 ∧ r = Sum.inr (false, si ν 1 8 c) ∧ gloop (fun t => b_X8_parseLine_50 (nI k) a b l t.1 t.2) gFuel ((0 : Int32), ρ4) = some (x, mE c ρ') ∧ RD n q ν ρ' ∧ LC k μ5 ν ∧ M4 62 (62 + 32 * k) (62 + 32 * k + 32) ρ4 ρ')) := by
  have gF : gFuel > 100 := by unfold gFuel; omega
  refine gloop_rel (body := fun t => b_X4_readLine_152 (nI k) t.1 t.2) (fun s t => ∃ μs, t = (nI s, μs) ∧ LnR n p k a b l μ5 ρ4 s μs) _ 8 (fun s t hs hR => ?_) (by omega) (s0 := ((0 : Int32), μ5)) ⟨μ5, rfl, ρ4, p, rfl, Nat.le_refl _, R, ⟨fun _ _ _ _ _ => rfl, rfl⟩, M4.rf _ _ _ _, fun h => absurd h (by omega), fun j hj => absurd hj (Nat.not_lt_zero _)⟩
  obtain ⟨μs, rfl, L⟩ := hR
  have L' := L
  obtain ⟨ρs, q, e, le, Rs, Fs, Gs, B, V⟩ := L'
  show (∃ t, b_X4_readLine_152 (nI k) (nI s) μs = _ ∧ _) ∨ ∃ r, b_X4_readLine_152 (nI k) (nI s) μs = _ ∧ _
  unfold b_X4_readLine_152
  by_cases c : s < 8
  · rw [if_neg (show ¬ (8 : Int32) ≤ nI s from nI_ge (b := 8) c (by decide))]
    by_cases go : s = 0 ∨ gi μs 1 5 = 2
    · have st : (if nI s ≤ 0 then j_X4_readLine_172 (nI k) (nI s) μs else if gi μs 1 5 = 2 then j_X4_readLine_172 (nI k) (nI s) μs else some (Sum.inr (Sum.inr (true, μs)))) = j_X4_readLine_172 (nI k) (nI s) μs := by
        by_cases z : s = 0
        · rw [if_pos (show nI s ≤ 0 by rw [z]; decide)]
        · rw [if_neg (show ¬ nI s ≤ 0 from nI_nle (by omega) (by omega)), if_pos (go.resolve_left z)]
      rw [st]
      unfold j_X4_readLine_172
      rw [c_placeb hk (by omega), Option.bind_some]
      have mb := lb_go (ρ := ρs) (s := s) (go.imp id (fun h => Rs.kd.trans h)) Rs.2.1 (by omega) (nI k) a b l
      rw [ps_eq Rs c] at mb
      rcases ln_4 hk c Rs with ⟨ν, ρ2, p2, r1, m1, le2, R2, C2, M2, V2⟩ | ⟨ν, ρ2, q2, cd, hc, r1, m1, R2, C2, M2⟩
      · left
        rw [m1, Option.bind_some] at mb
        refine ⟨(nI (s + 1), si ν 56 k (nI (s + 1))), ?_, ⟨_, rfl, ρ2, p2, ?_, by omega, R2.c (by omega), (Fs.c4 C2 (by omega)).x, Gs.tr M2 (by omega), fun _ => gi_sii, fun j hj w hw => ?_⟩, c⟩
        · rw [r1, Option.bind_some, if_neg (show ¬ b2i true = 0 by decide), gck hk (by decide), nI_clamp (by omega), nI_1]
        · rw [e, gl_s (by omega) mb, show gFuel - s - 1 = gFuel - (s + 1) by omega]
        · rw [gi_sik (by decide)]
          by_cases d : j = s
          · subst d
            have w2 := V2 w hw
            rw [show 62 + (32 * k + 4 * j) + w = 62 + (32 * k + 4 * j + w) by omega] at w2
            exact w2
          · have w2 := V j (by omega) w hw
            rw [show gi ν 57 (32 * k + 4 * j + w) = gi μs 57 (32 * k + 4 * j + w) from C2.1 57 _ (by omega) (by omega), show gi ρ2 62 (62 + (32 * k + 4 * j + w)) = gi ρs 62 (62 + (32 * k + 4 * j + w)) from M2.1 62 _ (by omega) (by omega)]
            exact w2
      · right
        rw [m1, Option.bind_some] at mb
        refine ⟨Sum.inr (false, si ν 1 8 cd), ?_, Or.inr ⟨ν, ρ2, q2, cd, nI (s + 1), hc, rfl, ?_, R2, Fs.c4 C2 (by omega), Gs.tr M2 (by omega)⟩⟩
        · rw [r1, Option.bind_some, if_pos (show b2i false = 0 from rfl)]
        · rw [e, gl_s (by omega) mb]
          exact gl_e (by omega) (lb_E (lt0 hc) _ _ _ _ _)
    · right
      have z : 1 ≤ s := by omega
      refine ⟨Sum.inr (true, μs), ?_, Or.inl ⟨μs, s, z, by omega, L, Or.inr ⟨rfl, fun w => go (Or.inr w)⟩⟩⟩
      rw [if_neg (show ¬ nI s ≤ 0 from nI_nle (by omega) (by omega)), if_neg (fun w => go (Or.inr w))]
  · right
    have z : s = 8 := by omega
    subst z
    exact ⟨Sum.inl μs, if_pos (show (8 : Int32) ≤ nI 8 by decide), Or.inl ⟨μs, 8, by omega, by omega, L, Or.inl ⟨rfl, rfl⟩⟩⟩
end SLN

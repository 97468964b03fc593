section VW
variable {μ : gM} {t u : Nat → Int32} {n p s e : Nat}
/-! words that are known -/
theorem w32_pos {i : Nat} (h : ltr (t (s + i))) : 1 ≤ w32 t s (i + 1) := by
  have c := ltr_c h
  show 1 ≤ 32 * w32 t s i + ((t (s + i)).toInt - 96).toNat
  omega
theorem w32_inj {q : Nat} : ∀ i j, (∀ x, s ≤ x → x < s + i → ltr (t x)) → (∀ x, q ≤ x → x < q + j → ltr (u x)) → w32 t s i = w32 u q j → i = j ∧ ∀ x, x < i → t (s + x) = u (q + x)
  | 0, 0, _, _, _ => ⟨rfl, fun x hx => absurd hx (Nat.not_lt_zero _)⟩
  | 0, j + 1, _, h2, h => by
    have := w32_pos (h2 (q + j) (by omega) (by omega))
    have h0 : w32 t s 0 = 0 := rfl
    omega
  | i + 1, 0, h1, _, h => by
    have := w32_pos (h1 (s + i) (by omega) (by omega))
    have h0 : w32 u q 0 = 0 := rfl
    omega
  | i + 1, j + 1, h1, h2, h => by
    have a := h1 (s + i) (by omega) (by omega)
    have b := h2 (q + j) (by omega) (by omega)
    have ca := ltr_c a
    have cb := ltr_c b
    have ia := ltr_i a
    have ib := ltr_i b
    have h : 32 * w32 t s i + ((t (s + i)).toInt - 96).toNat = 32 * w32 u q j + ((u (q + j)).toInt - 96).toNat := h
    obtain ⟨e1, e2⟩ := w32_inj i j (fun x y z => h1 x y (by omega)) (fun x y z => h2 x y (by omega)) (by omega)
    subst e1
    refine ⟨rfl, fun x hx => ?_⟩
    by_cases c : x = i
    · subst c
      exact Int32.toInt_inj.mp (by omega)
    · exact e2 x (by omega)
def iwb (m : Int32) (mN k : Nat) (x2 : Int32) (μ : gM) : Option ((Int32) ⊕ ((Unit) ⊕ (Bool))) :=
  if (m ≤ x2) then some (.inr (.inl ())) else gchk (gIn ((gi μ 1 3) + x2) 1200) (gchk (gIn x2 mN) (if ((gi μ 2 ((gi μ 1 3) + x2).toNatClampNeg) = (sc k x2.toNatClampNeg)) then some (.inl (x2 + (1 : Int32))) else some (.inr (.inr false))))
def iwd (m : Int32) (mN k : Nat) (μ : gM) : Option Bool :=
  if ((gi μ 1 5) = (1 : Int32)) then if (((gi μ 1 4) - (gi μ 1 3)) = m) then Option.bind (gloop (fun t => iwb m mN k t μ) gFuel (0 : Int32)) (fun q7 => Sum.elim (fun t8 => some true) (fun x => some x) q7) else some false else some false
theorem iw5 (μ : gM) : f_X4_isWord_5 μ = iwd 5 5 5 μ := rfl
theorem iw6 (μ : gM) : f_X4_isWord_6 μ = iwd 4 4 6 μ := rfl
theorem iw7 (μ : gM) : f_X4_isWord_7 μ = iwd 5 5 7 μ := rfl
theorem iw8 (μ : gM) : f_X4_isWord_8 μ = iwd 4 4 8 μ := rfl
theorem iw9 (μ : gM) : f_X4_isWord_9 μ = iwd 4 4 9 μ := rfl
theorem iw10 (μ : gM) : f_X4_isWord_10 μ = iwd 3 3 10 μ := rfl
theorem iw11 (μ : gM) : f_X4_isWord_11 μ = iwd 9 9 11 μ := rfl
theorem iw12 (μ : gM) : f_X4_isWord_12 μ = iwd 5 5 12 μ := rfl
theorem iw13 (μ : gM) : f_X4_isWord_13 μ = iwd 7 7 13 μ := rfl
theorem c_isW {m k kd : Nat} (hm : m ≤ 9) (hk : kd < 5) (hse : s ≤ e) (he : e ≤ 1200) (h3 : gi μ 1 3 = nI s) (h4 : gi μ 1 4 = nI e) (h5 : gi μ 1 5 = nI kd) : ∃ b, iwd (nI m) m k μ = some b ∧ (b = true ↔ kd = 1 ∧ e - s = m ∧ ∀ i, i < m → gi μ 2 (s + i) = sc k (0 + i)) := by
  unfold iwd
  rw [h3, h4, h5, pk_sub hse]
  by_cases c1 : kd = 1
  · rw [if_pos (show nI kd = (1 : Int32) by rw [c1]; rfl)]
    by_cases c2 : e - s = m
    · rw [if_pos (by rw [c2])]
      obtain ⟨q, g1, g2⟩ := gloop_rel (body := fun t => iwb (nI m) m k t μ) (fun i t => t = nI i ∧ ∀ j, j < i → gi μ 2 (s + j) = sc k (0 + j)) (fun q => (q = Sum.inl () ∧ ∀ j, j < m → gi μ 2 (s + j) = sc k (0 + j)) ∨ (q = Sum.inr false ∧ ¬ ∀ j, j < m → gi μ 2 (s + j) = sc k (0 + j))) m (fun i t hi hR => by
        obtain ⟨e1, O⟩ := hR
        subst e1
        show (∃ t, iwb (nI m) m k (nI i) μ = _ ∧ _) ∨ ∃ r, iwb (nI m) m k (nI i) μ = _ ∧ _
        unfold iwb
        by_cases c : i < m
        · rw [if_neg (nI_ge c (by omega)), h3, nI_add]
          simp (disch := omega) only [gck, nI_clamp]
          rw [nI_1]
          by_cases d : gi μ 2 (s + i) = sc k i
          · left
            rw [if_pos d]
            refine ⟨_, rfl, ⟨rfl, fun j hj => ?_⟩, c⟩
            by_cases f : j = i
            · subst f; rw [Nat.zero_add]; exact d
            · exact O j (by omega)
          · right
            rw [if_neg d]
            exact ⟨_, rfl, Or.inr ⟨rfl, fun w => d (by have := w i c; rwa [Nat.zero_add] at this)⟩⟩
        · right
          have f : i = m := by omega
          subst f
          exact ⟨_, if_pos (nI_le (Nat.le_refl _) (by omega)), Or.inl ⟨rfl, O⟩⟩) (by unfold gFuel; omega) (s0 := nI 0) ⟨rfl, fun j hj => absurd hj (Nat.not_lt_zero _)⟩
      rw [show gloop (fun t => iwb (nI m) m k t μ) gFuel (0 : Int32) = _ from g1]
      rcases g2 with ⟨w1, w2⟩ | ⟨w1, w2⟩
      · rw [w1]; exact ⟨true, rfl, fun _ => ⟨c1, c2, w2⟩, fun _ => rfl⟩
      · rw [w1]; exact ⟨false, rfl, (fun h => by cases h), fun h => absurd h.2.2 w2⟩
    · rw [if_neg (fun w => c2 ((nI_eq (by omega) (by omega)).mp w))]
      exact ⟨false, rfl, (fun h => by cases h), fun h => absurd h.2.1 c2⟩
  · rw [if_neg (show ¬ nI kd = (1 : Int32) from fun w => c1 ((nI_eq (b := 1) (by omega) (by decide)).mp w))]
    exact ⟨false, rfl, (fun h => by cases h), fun h => absurd h.1 c1⟩
/-- the model's number of a word says which word it is -/
theorem wd_is {m k : Nat} {W : Int64} (hW : W = lN (w32 (sc k) 0 m)) (hm : 1 ≤ m ∧ m ≤ 9) (hs : ∀ x, 0 ≤ x → x < 0 + m → ltr (sc k x)) (hse : s < e) (hl : ∀ i, s ≤ i → i < e → ltr (t i)) : ((if e - s ≤ 12 then wdM t s (e - s) else 0) = W) ↔ (e - s = m ∧ ∀ i, i < m → t (s + i) = sc k (0 + i)) := by
  have b2 := w32_lt m hs
  have p60 : (32 : Nat) ^ m ≤ 2 ^ 60 := Nat.le_trans (Nat.pow_le_pow_right (by decide) (show m ≤ 12 by omega)) (by decide)
  by_cases c : e - s ≤ 12
  · have hl2 : ∀ j, s ≤ j → j < s + (e - s) → ltr (t j) := fun j h1 h2 => hl j h1 (by omega)
    have b1 := w32_lt (e - s) hl2
    have q60 : (32 : Nat) ^ (e - s) ≤ 2 ^ 60 := Nat.le_trans (Nat.pow_le_pow_right (by decide) c) (by decide)
    rw [if_pos c, wdM_e _ c hl2, hW]
    constructor
    · intro h
      have h2 := congrArg Int64.toInt h
      rw [pk_lT (by omega), pk_lT (by omega)] at h2
      obtain ⟨r1, r2⟩ := w32_inj (e - s) m hl2 hs (by omega)
      exact ⟨r1, fun i hi => r2 i (by omega)⟩
    · rintro ⟨r1, r2⟩
      rw [r1]
      have : ∀ i, i ≤ m → w32 t s i = w32 (sc k) 0 i := fun i => by
        induction i with
        | zero => exact fun _ => rfl
        | succ i ih =>
          intro hi
          show 32 * w32 t s i + ((t (s + i)).toInt - 96).toNat = 32 * w32 (sc k) 0 i + ((sc k (0 + i)).toInt - 96).toNat
          rw [ih (by omega), r2 i (by omega)]
      rw [this m (Nat.le_refl _)]
  · rw [if_neg c]
    constructor
    · intro h
      rw [hW] at h
      have h2 := congrArg Int64.toInt h
      rw [pk_lT (by omega)] at h2
      have z : (0 : Int64).toInt = 0 := by decide
      obtain ⟨m', rfl⟩ : ∃ m', m = m' + 1 := ⟨m - 1, by omega⟩
      have := w32_pos (t := sc k) (s := 0) (i := m') (hs (0 + m') (by omega) (by omega))
      omega
    · rintro ⟨r1, -⟩
      omega
theorem wk5 : (12769452 : Int64) = lN (w32 (sc 5) 0 5) ∧ ∀ x, x < 5 → ltr (sc 5 x) := ⟨by decide +kernel, by unfold ltr; decide +kernel⟩
theorem wk6 : (147182 : Int64) = lN (w32 (sc 6) 0 4) ∧ ∀ x, x < 4 → ltr (sc 6 x) := ⟨by decide +kernel, by unfold ltr; decide +kernel⟩
theorem wk7 : (17278420 : Int64) = lN (w32 (sc 7) 0 5) ∧ ∀ x, x < 5 → ltr (sc 7 x) := ⟨by decide +kernel, by unfold ltr; decide +kernel⟩
theorem wk8 : (402885 : Int64) = lN (w32 (sc 8) 0 4) ∧ ∀ x, x < 4 → ltr (sc 8 x) := ⟨by decide +kernel, by unfold ltr; decide +kernel⟩
theorem wk9 : (661108 : Int64) = lN (w32 (sc 9) 0 4) ∧ ∀ x, x < 4 → ltr (sc 9 x) := ⟨by decide +kernel, by unfold ltr; decide +kernel⟩
theorem wk10 : (19636 : Int64) = lN (w32 (sc 10) 0 3) ∧ ∀ x, x < 3 → ltr (sc 10 x) := ⟨by decide +kernel, by unfold ltr; decide +kernel⟩
theorem wk11 : (22518700226661 : Int64) = lN (w32 (sc 11) 0 9) ∧ ∀ x, x < 9 → ltr (sc 11 x) := ⟨by decide +kernel, by unfold ltr; decide +kernel⟩
theorem wk12 : (20225300 : Int64) = lN (w32 (sc 12) 0 5) ∧ ∀ x, x < 5 → ltr (sc 12 x) := ⟨by decide +kernel, by unfold ltr; decide +kernel⟩
theorem wk13 : (2193668197 : Int64) = lN (w32 (sc 13) 0 7) ∧ ∀ x, x < 7 → ltr (sc 13 x) := ⟨by decide +kernel, by unfold ltr; decide +kernel⟩
end VW

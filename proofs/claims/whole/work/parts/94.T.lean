/-! what is read: tokens, the model's side -/
section TM
variable {ρ : gM} {t : Nat → Int32} {n p : Nat}
theorem byF_k : ∀ k, k < 256 → (((nI k - 128) &&& 255 = 32) ↔ (nI k - 128 = 32)) ∧ (((nI k - 128) &&& 255 = 10) ↔ (nI k - 128 = 10)) ∧ (((nI k - 128) &&& 255 = 59) ↔ (nI k - 128 = 59)) ∧
    ((¬ ((nI k - 128) &&& 255) < 97 ∧ ¬ (122 : Int32) < ((nI k - 128) &&& 255)) ↔ (¬ (nI k - 128) < 97 ∧ ¬ (122 : Int32) < (nI k - 128))) ∧ ((¬ ((nI k - 128) &&& 255) < 48 ∧ ¬ (57 : Int32) < ((nI k - 128) &&& 255)) ↔ (¬ (nI k - 128) < 48 ∧ ¬ (57 : Int32) < (nI k - 128))) ∧ 0 ≤ ((nI k - 128) &&& 255) ∧ (¬ (nI k - 128) < 0 → ((nI k - 128) &&& 255) = nI k - 128) := by decide +kernel
theorem byF {x : Int32} (h : inR (-128) 127 x) : ((x &&& 255 = 32) ↔ (x = 32)) ∧ ((x &&& 255 = 10) ↔ (x = 10)) ∧ ((x &&& 255 = 59) ↔ (x = 59)) ∧
    ((¬ (x &&& 255) < 97 ∧ ¬ (122 : Int32) < (x &&& 255)) ↔ ltr x) ∧ ((¬ (x &&& 255) < 48 ∧ ¬ (57 : Int32) < (x &&& 255)) ↔ dgt x) ∧ 0 ≤ (x &&& 255) ∧ (¬ x < 0 → (x &&& 255) = x) := by
  obtain ⟨h1, h2⟩ := h
  have e : x = nI (x.toInt + 128).toNat - 128 := by
    refine Int32.toInt_inj.mp ?_
    rw [show (128 : Int32) = nI 128 from rfl, pk_sub_toInt (by omega) (by decide)]
    omega
  have := byF_k (x.toInt + 128).toNat (by omega)
  rw [← e] at this
  exact this
/-- cells that the model's reader moves -/
def MF (μ ν : gM) : Prop := (∀ k i, (k ≠ 60 ∨ i < 12 ∨ 16 < i) → ν.1 k i = μ.1 k i) ∧ ∀ k i, (k ≠ 60 ∨ i ≠ 15) → ν.2 k i = μ.2 k i
theorem MF.rf (μ : gM) : MF μ μ := ⟨fun _ _ _ => rfl, fun _ _ _ => rfl⟩
theorem MF.tr {μ ν ρ : gM} (h : MF μ ν) (h2 : MF ν ρ) : MF μ ρ := ⟨fun k i x => (h2.1 k i x).trans (h.1 k i x), fun k i x => (h2.2 k i x).trans (h.2 k i x)⟩
theorem MF.xsi {μ ν : gM} {i : Nat} {x : Int32} (h : MF μ ν) (hi : 12 ≤ i ∧ i ≤ 16) : MF μ (si ν 60 i x) := ⟨fun k j hk => by
  simp only [si]
  rw [if_neg (by omega)]
  exact h.1 k j hk, h.2⟩
theorem MF.xsl {μ ν : gM} {x : Int64} (h : MF μ ν) : MF μ (sl ν 60 15 x) := ⟨h.1, fun k j hk => by
  simp only [sl]
  rw [if_neg (by omega)]
  exact h.2 k j hk⟩
/-- the model's text -/
def TXm (t : Nat → Int32) (n : Nat) (ρ : gM) : Prop := n ≤ 1200 ∧ gi ρ 60 11 = nI n ∧ ∀ j, j < n → gi ρ 68 j = t j ∧ inR (-128) 127 (t j)
theorem TXm.mf {ρ ν : gM} (h : TXm t n ρ) (F : MF ρ ν) : TXm t n ν := ⟨h.1, (F.1 60 11 (by omega)).trans h.2.1, fun j hj => ⟨(F.1 68 j (by omega)).trans (h.2.2 j hj).1, (h.2.2 j hj).2⟩⟩
theorem m_peek (T : TXm t n ρ) {q : Nat} (hq : gi ρ 60 12 = nI q) (hle : q ≤ n) : f_X8_peek ρ = some (if q < n then t q &&& 255 else -1) := by
  have h1 := T.1
  unfold f_X8_peek
  rw [T.2.1, hq]
  by_cases c : q < n
  · rw [if_neg (nI_ge c (by omega)), if_pos c]
    simp (disch := omega) only [gck, nI_clamp]
    rw [(T.2.2 q c).1]
  · rw [if_pos (nI_le (by omega) (by omega)), if_neg c]
theorem rl_t {x : Int32} {μ : gM} (h : inR (-128) 127 x) (hl : ltr x) : f_X8_inRange (x &&& 255) 97 122 μ = some true := by
  have := (byF h).2.2.2.1.mpr hl
  unfold f_X8_inRange
  rw [if_neg this.1, if_neg this.2]
theorem rl_f {x : Int32} {μ : gM} (h : inR (-128) 127 x) (hl : ¬ ltr x) : f_X8_inRange (x &&& 255) 97 122 μ = some false := by
  have := fun w => hl ((byF h).2.2.2.1.mp w)
  unfold f_X8_inRange
  by_cases c : (x &&& 255) < 97
  · rw [if_pos c]
  · rw [if_neg c]
    by_cases d : (122 : Int32) < (x &&& 255)
    · rw [if_pos d]
    · exact absurd ⟨c, d⟩ this
theorem rd_t {x : Int32} {μ : gM} (h : inR (-128) 127 x) (hl : dgt x) : f_X8_inRange (x &&& 255) 48 57 μ = some true := by
  have := (byF h).2.2.2.2.1.mpr hl
  unfold f_X8_inRange
  rw [if_neg this.1, if_neg this.2]
theorem rd_f {x : Int32} {μ : gM} (h : inR (-128) 127 x) (hl : ¬ dgt x) : f_X8_inRange (x &&& 255) 48 57 μ = some false := by
  have := fun w => hl ((byF h).2.2.2.2.1.mp w)
  unfold f_X8_inRange
  by_cases c : (x &&& 255) < 48
  · rw [if_pos c]
  · rw [if_neg c]
    by_cases d : (57 : Int32) < (x &&& 255)
    · rw [if_pos d]
    · exact absurd ⟨c, d⟩ this
theorem m_skip (T : TXm t n ρ) (hp : p ≤ n) (h4 : gi ρ 60 12 = nI p) : ∃ ν s, gloop (fun t => b_X8_advance_0 t) gFuel ρ = some ν ∧ MF ρ ν ∧ gi ν 60 12 = nI s ∧ p ≤ s ∧ s ≤ n ∧ (∀ i, p ≤ i → i < s → blk (t i)) ∧ (s = n ∨ (s < n ∧ ¬ blk (t s))) := by
  have hn := T.1
  obtain ⟨ν, h, s, r⟩ := gloop_rel (body := fun t => b_X8_advance_0 t) (fun i ν => MF ρ ν ∧ gi ν 60 12 = nI (p + i) ∧ p + i ≤ n ∧ ∀ j, p ≤ j → j < p + i → blk (t j)) (fun ν => ∃ s, MF ρ ν ∧ gi ν 60 12 = nI s ∧ p ≤ s ∧ s ≤ n ∧ (∀ i, p ≤ i → i < s → blk (t i)) ∧ (s = n ∨ (s < n ∧ ¬ blk (t s)))) (n - p) (fun i ν hi hR => by
    obtain ⟨F, B, hle, O⟩ := hR
    have T2 := T.mf F
    show (∃ t, b_X8_advance_0 ν = _ ∧ _) ∨ ∃ r, b_X8_advance_0 ν = _ ∧ _
    unfold b_X8_advance_0
    rw [m_peek T2 B hle, Option.bind_some, Option.bind_some, B]
    by_cases c : p + i < n
    · have bf := byF (T.2.2 _ c).2
      rw [if_pos c, nI_1]
      have nx : blk (t (p + i)) → (MF ρ (si ν 60 12 (nI (p + i + 1))) ∧ gi (si ν 60 12 (nI (p + i + 1))) 60 12 = nI (p + (i + 1)) ∧ p + (i + 1) ≤ n ∧ ∀ j, p ≤ j → j < p + (i + 1) → blk (t j)) := fun w => ⟨F.xsi (by omega), gi_sii, by omega, fun j hj1 hj2 => by
        by_cases d : j = p + i
        · rw [d]; exact w
        · exact O j hj1 (by omega)⟩
      by_cases d1 : t (p + i) = 32
      · left
        rw [if_pos (bf.1.mpr d1)]
        exact ⟨_, rfl, nx (Or.inl d1), by omega⟩
      · rw [if_neg (fun w => d1 (bf.1.mp w))]
        by_cases d2 : t (p + i) = 10
        · left
          rw [if_pos (bf.2.1.mpr d2)]
          exact ⟨_, rfl, nx (Or.inr d2), by omega⟩
        · right
          rw [if_neg (fun w => d2 (bf.2.1.mp w))]
          exact ⟨_, rfl, p + i, F, B, by omega, hle, O, Or.inr ⟨c, fun w => w.elim d1 d2⟩⟩
    · right
      rw [if_neg c, if_neg (by decide), if_neg (by decide)]
      exact ⟨_, rfl, p + i, F, B, by omega, hle, O, Or.inl (by omega)⟩) (by unfold gFuel; omega) (s0 := ρ) ⟨MF.rf ρ, h4, by omega, fun j h1 h2 => by omega⟩
  exact ⟨ν, s, h, r⟩
/-- the model's word and number -/
def wdM (t : Nat → Int32) (s : Nat) : Nat → Int64
  | 0 => 0
  | i + 1 => if 12 ≤ i then 0 else (wdM t s i <<< ((5 : Int32).toInt64 &&& 63)) ||| (t (s + i) - 96).toInt64
def nbM (t : Nat → Int32) (s : Nat) : Nat → Int32
  | 0 => 0
  | i + 1 => if nbM t s i ≤ (100000000 : Int32) then ((10 : Int32) * nbM t s i + t (s + i)) - 48 else 1000000000
theorem ltr_p {x : Int32} (h : ltr x) : ¬ x < 0 := fun w => h.1 (Int32.lt_trans w (by decide))
theorem dgt_p {x : Int32} (h : dgt x) : ¬ x < 0 := fun w => h.1 (Int32.lt_trans w (by decide))
theorem m_scanW (T : TXm t n ρ) {s : Nat} (hs : s < n) (h3 : gi ρ 60 13 = nI s) (h4 : gi ρ 60 12 = nI s) (h5 : gi ρ 60 14 = 1) (h6 : gl ρ 60 15 = 0) (hl : ltr (t s)) : ∃ ν e, gloop (fun t => b_X8_advance_82 t) gFuel ρ = some ν ∧ MF ρ ν ∧ gi ν 60 13 = nI s ∧ gi ν 60 12 = nI e ∧ gi ν 60 14 = 1 ∧ gl ν 60 15 = wdM t s (e - s) ∧ s < e ∧ e ≤ n ∧ (∀ i, s ≤ i → i < e → ltr (t i)) ∧ (e = n ∨ ¬ ltr (t e)) := by
  have hn := T.1
  obtain ⟨ν, h, e, r⟩ := gloop_rel (body := fun t => b_X8_advance_82 t) (fun i ν => MF ρ ν ∧ gi ν 60 13 = nI s ∧ gi ν 60 12 = nI (s + i) ∧ gi ν 60 14 = 1 ∧ gl ν 60 15 = wdM t s i ∧ s + i ≤ n ∧ ∀ j, s ≤ j → j < s + i → ltr (t j)) (fun ν => ∃ e, MF ρ ν ∧ gi ν 60 13 = nI s ∧ gi ν 60 12 = nI e ∧ gi ν 60 14 = 1 ∧ gl ν 60 15 = wdM t s (e - s) ∧ s < e ∧ e ≤ n ∧ (∀ i, s ≤ i → i < e → ltr (t i)) ∧ (e = n ∨ ¬ ltr (t e))) (n - s) (fun i ν hi hR => by
    obtain ⟨F, B3, B4, B5, B6, hle, O⟩ := hR
    have T2 := T.mf F
    show (∃ t, b_X8_advance_82 ν = _ ∧ _) ∨ ∃ r, b_X8_advance_82 ν = _ ∧ _
    unfold b_X8_advance_82
    rw [m_peek T2 B4 hle, Option.bind_some]
    by_cases c : s + i < n
    · have br := (T.2.2 _ c).2
      rw [if_pos c]
      by_cases d : ltr (t (s + i))
      · left
        have O2 : ∀ j, s ≤ j → j < s + (i + 1) → ltr (t j) := fun j hj1 hj2 => by
          by_cases d2 : j = s + i
          · rw [d2]; exact d
          · exact O j hj1 (by omega)
        rw [rl_t br d, Option.bind_some, if_neg (show ¬ b2i true = 0 by decide), B4, B3, pk_sub (by omega), Nat.add_sub_cancel_left, Option.bind_some, (byF br).2.2.2.2.2.2 (ltr_p d), B6]
        have fin : ∀ w : Int64, w = wdM t s (i + 1) → ∃ t2, j_X8_advance_130 w ν = some (Sum.inl t2) ∧ (MF ρ t2 ∧ gi t2 60 13 = nI s ∧ gi t2 60 12 = nI (s + (i + 1)) ∧ gi t2 60 14 = 1 ∧ gl t2 60 15 = wdM t s (i + 1) ∧ s + (i + 1) ≤ n ∧ ∀ j, s ≤ j → j < s + (i + 1) → ltr (t j)) ∧ i < n - s := fun w hw => by
          refine ⟨si (sl ν 60 15 w) 60 12 (nI (s + i + 1)), ?_, ⟨(F.xsl).xsi (by omega), (gi_sij (by decide)).trans B3, gi_sii, (gi_sij (by decide)).trans B5, ?_, by omega, O2⟩, by omega⟩
          · unfold j_X8_advance_130
            rw [show gi (sl ν 60 15 w) 60 12 = nI (s + i) from B4, nI_1]
          · rw [← hw]
            show gl (sl ν 60 15 w) 60 15 = w
            exact gl_sll
        by_cases d3 : 12 ≤ i
        · rw [if_pos (show (12 : Int32) ≤ nI i from nI_le (a := 12) d3 (by omega))]
          exact fin 0 (if_pos d3).symm
        · rw [if_neg (show ¬ (12 : Int32) ≤ nI i from nI_ge (b := 12) (by omega) (by decide))]
          exact fin _ (if_neg d3).symm
      · right
        rw [rl_f br d, Option.bind_some, if_pos (show b2i false = 0 from rfl)]
        have i0 : 0 < i := by
          refine Nat.pos_of_ne_zero (fun z => d ?_)
          rw [z, Nat.add_zero]; exact hl
        exact ⟨_, rfl, s + i, F, B3, B4, B5, by rw [Nat.add_sub_cancel_left]; exact B6, by omega, hle, O, Or.inr d⟩
    · right
      rw [if_neg c]
      exact ⟨_, rfl, s + i, F, B3, B4, B5, by rw [Nat.add_sub_cancel_left]; exact B6, by omega, hle, O, Or.inl (by omega)⟩) (by unfold gFuel; omega) (s0 := ρ) ⟨MF.rf ρ, h3, h4, h5, h6, by omega, fun j h1 h2 => by omega⟩
  exact ⟨ν, e, h, r⟩
theorem m_scanI (T : TXm t n ρ) {s : Nat} (hs : s < n) (h3 : gi ρ 60 13 = nI s) (h4 : gi ρ 60 12 = nI s) (h5 : gi ρ 60 14 = 2) (h6 : gi ρ 60 16 = 0) (hl : dgt (t s)) : ∃ ν e, gloop (fun t => b_X8_advance_184 t) gFuel ρ = some ν ∧ MF ρ ν ∧ gi ν 60 13 = nI s ∧ gi ν 60 12 = nI e ∧ gi ν 60 14 = 2 ∧ gi ν 60 16 = nbM t s (e - s) ∧ s < e ∧ e ≤ n ∧ (∀ i, s ≤ i → i < e → dgt (t i)) ∧ (e = n ∨ ¬ dgt (t e)) := by
  have hn := T.1
  obtain ⟨ν, h, e, r⟩ := gloop_rel (body := fun t => b_X8_advance_184 t) (fun i ν => MF ρ ν ∧ gi ν 60 13 = nI s ∧ gi ν 60 12 = nI (s + i) ∧ gi ν 60 14 = 2 ∧ gi ν 60 16 = nbM t s i ∧ s + i ≤ n ∧ ∀ j, s ≤ j → j < s + i → dgt (t j)) (fun ν => ∃ e, MF ρ ν ∧ gi ν 60 13 = nI s ∧ gi ν 60 12 = nI e ∧ gi ν 60 14 = 2 ∧ gi ν 60 16 = nbM t s (e - s) ∧ s < e ∧ e ≤ n ∧ (∀ i, s ≤ i → i < e → dgt (t i)) ∧ (e = n ∨ ¬ dgt (t e))) (n - s) (fun i ν hi hR => by
    obtain ⟨F, B3, B4, B5, B6, hle, O⟩ := hR
    have T2 := T.mf F
    show (∃ t, b_X8_advance_184 ν = _ ∧ _) ∨ ∃ r, b_X8_advance_184 ν = _ ∧ _
    unfold b_X8_advance_184
    rw [m_peek T2 B4 hle, Option.bind_some]
    by_cases c : s + i < n
    · have br := (T.2.2 _ c).2
      rw [if_pos c]
      by_cases d : dgt (t (s + i))
      · left
        have O2 : ∀ j, s ≤ j → j < s + (i + 1) → dgt (t j) := fun j hj1 hj2 => by
          by_cases d2 : j = s + i
          · rw [d2]; exact d
          · exact O j hj1 (by omega)
        rw [rd_t br d, Option.bind_some, if_neg (show ¬ b2i true = 0 by decide), Option.bind_some, (byF br).2.2.2.2.2.2 (dgt_p d), B6]
        have fin : ∀ w : Int32, w = nbM t s (i + 1) → ∃ t2, j_X8_advance_228 w ν = some (Sum.inl t2) ∧ (MF ρ t2 ∧ gi t2 60 13 = nI s ∧ gi t2 60 12 = nI (s + (i + 1)) ∧ gi t2 60 14 = 2 ∧ gi t2 60 16 = nbM t s (i + 1) ∧ s + (i + 1) ≤ n ∧ ∀ j, s ≤ j → j < s + (i + 1) → dgt (t j)) ∧ i < n - s := fun w hw => by
          refine ⟨si (si ν 60 16 w) 60 12 (nI (s + i + 1)), ?_, ⟨(F.xsi (by omega)).xsi (by omega), (gi_sij (by decide)).trans ((gi_sij (by decide)).trans B3), gi_sii, (gi_sij (by decide)).trans ((gi_sij (by decide)).trans B5), ?_, by omega, O2⟩, by omega⟩
          · unfold j_X8_advance_228
            rw [gi_sij (by decide), B4, nI_1]
          · rw [gi_sij (by decide), gi_sii]; exact hw
        by_cases d3 : nbM t s i ≤ (100000000 : Int32)
        · rw [if_pos d3]
          exact fin _ (if_pos d3).symm
        · rw [if_neg d3]
          exact fin _ (if_neg d3).symm
      · right
        rw [rd_f br d, Option.bind_some, if_pos (show b2i false = 0 from rfl)]
        have i0 : 0 < i := by
          refine Nat.pos_of_ne_zero (fun z => d ?_)
          rw [z, Nat.add_zero]; exact hl
        exact ⟨_, rfl, s + i, F, B3, B4, B5, by rw [Nat.add_sub_cancel_left]; exact B6, by omega, hle, O, Or.inr d⟩
    · right
      rw [if_neg c]
      exact ⟨_, rfl, s + i, F, B3, B4, B5, by rw [Nat.add_sub_cancel_left]; exact B6, by omega, hle, O, Or.inl (by omega)⟩) (by unfold gFuel; omega) (s0 := ρ) ⟨MF.rf ρ, h3, h4, h5, h6, by omega, fun j h1 h2 => by omega⟩
  exact ⟨ν, e, h, r⟩
/-- the model takes the next token -/
theorem m_adv (T : TXm t n ρ) (hp : p ≤ n) (h4 : gi ρ 60 12 = nI p) : ∃ ν k s e, f_X8_advance ρ = some ν ∧ MF ρ ν ∧ Tok t n p k s e ∧ gi ν 60 13 = nI s ∧ gi ν 60 12 = nI e ∧ gi ν 60 14 = nI k ∧ (k = 1 → gl ν 60 15 = if e - s ≤ 12 then wdM t s (e - s) else 0) ∧ (k = 2 → gi ν 60 16 = nbM t s (e - s)) := by
  have hn := T.1
  obtain ⟨ν1, s, g1, F1, B4, hps, hsn, O, D⟩ := m_skip T hp h4
  obtain ⟨ν2, e2⟩ : ∃ ν2, ν2 = si (sl (si ν1 60 13 (nI s)) 60 15 (0 : Int64)) 60 16 (0 : Int32) := ⟨_, rfl⟩
  have F2 : MF ρ ν2 := by rw [e2]; exact ((F1.xsi (by omega)).xsl).xsi (by omega)
  have C3 : gi ν2 60 13 = nI s := by rw [e2]; exact (gi_sij (by decide)).trans ((show gi (sl (si ν1 60 13 (nI s)) 60 15 (0 : Int64)) 60 13 = gi (si ν1 60 13 (nI s)) 60 13 from rfl).trans gi_sii)
  have C4 : gi ν2 60 12 = nI s := by rw [e2]; exact (gi_sij (by decide)).trans ((show gi (sl (si ν1 60 13 (nI s)) 60 15 (0 : Int64)) 60 12 = gi (si ν1 60 13 (nI s)) 60 12 from rfl).trans ((gi_sij (by decide)).trans B4))
  have C5 : gl ν2 60 15 = 0 := by
    rw [e2]
    show gl (sl (si ν1 60 13 (nI s)) 60 15 (0 : Int64)) 60 15 = 0
    exact gl_sll
  have C6 : gi ν2 60 16 = 0 := by rw [e2]; exact gi_sii
  have T2 := T.mf F2
  unfold f_X8_advance
  rw [g1, Option.bind_some, B4, ← e2, m_peek T2 C4 hsn, Option.bind_some]
  rcases D with D | ⟨D, nb⟩
  · subst D
    refine ⟨si ν2 60 14 0, 0, s, s, ?_, F2.xsi (by omega), ⟨hps, hsn, O, Or.inl ⟨rfl, rfl, rfl⟩⟩, (gi_sij (by decide)).trans C3, (gi_sij (by decide)).trans C4, gi_sii, (fun h => by cases h), (fun h => by cases h)⟩
    rw [if_neg (Nat.lt_irrefl s), if_neg (by decide)]
  · have br := (T.2.2 _ D).2
    have bf := byF br
    rw [if_pos D, if_pos bf.2.2.2.2.2.1]
    by_cases dl : ltr (t s)
    · rw [rl_t br dl, Option.bind_some, if_neg (show ¬ b2i true = 0 by decide)]
      have F3 : MF ν2 (si ν2 60 14 1) := (MF.rf ν2).xsi (by omega)
      obtain ⟨ν, e, x1, x2, x3, x4, x5, x6, x7, x8, x9, x10⟩ := m_scanW (T2.mf F3) D ((gi_sij (by decide)).trans C3) ((gi_sij (by decide)).trans C4) gi_sii C5 dl
      rw [x1, Option.bind_some, x4, x3, pk_sub (by omega)]
      have tk : Tok t n p 1 s e := ⟨hps, hsn, O, Or.inr ⟨D, nb, Or.inl ⟨dl, rfl, x7, x8, x9, x10⟩⟩⟩
      by_cases c : e - s ≤ 12
      · rw [if_pos (show nI (e - s) ≤ (12 : Int32) from nI_le (b := 12) c (by decide))]
        exact ⟨ν, 1, s, e, rfl, (F2.tr F3).tr x2, tk, x3, x4, x5, (fun _ => by rw [if_pos c]; exact x6), (fun h => by cases h)⟩
      · rw [if_neg (show ¬ nI (e - s) ≤ (12 : Int32) from nI_ge (a := 12) (by omega) (by omega))]
        exact ⟨sl ν 60 15 0, 1, s, e, rfl, ((F2.tr F3).tr x2).xsl, tk, x3, x4, x5, (fun _ => by rw [if_neg c]; exact gl_sll), (fun h => by cases h)⟩
    · rw [rl_f br dl, Option.bind_some, if_pos (show b2i false = 0 from rfl)]
      by_cases dd : dgt (t s)
      · rw [rd_t br dd, Option.bind_some, if_neg (show ¬ b2i true = 0 by decide)]
        have F3 : MF ν2 (si ν2 60 14 2) := (MF.rf ν2).xsi (by omega)
        obtain ⟨ν, e, x1, x2, x3, x4, x5, x6, x7, x8, x9, x10⟩ := m_scanI (T2.mf F3) D ((gi_sij (by decide)).trans C3) ((gi_sij (by decide)).trans C4) gi_sii ((gi_sij (by decide)).trans C6) dd
        rw [x1, Option.bind_some]
        exact ⟨ν, 2, s, e, rfl, (F2.tr F3).tr x2, ⟨hps, hsn, O, Or.inr ⟨D, nb, Or.inr (Or.inl ⟨dl, dd, rfl, x7, x8, x9, x10⟩)⟩⟩, x3, x4, x5, (fun h => by cases h), (fun _ => x6)⟩
      · rw [rd_f br dd, Option.bind_some, if_pos (show b2i false = 0 from rfl)]
        have fin : ∀ k : Nat, (k = if t s = 59 then 3 else 4) → ∃ ν k2 s2 e, j_X8_advance_256 (nI k) ν2 = some ν ∧ MF ρ ν ∧ Tok t n p k2 s2 e ∧ gi ν 60 13 = nI s2 ∧ gi ν 60 12 = nI e ∧ gi ν 60 14 = nI k2 ∧ (k2 = 1 → gl ν 60 15 = if e - s2 ≤ 12 then wdM t s2 (e - s2) else 0) ∧ (k2 = 2 → gi ν 60 16 = nbM t s2 (e - s2)) := fun k hk => by
          have k34 : k = 3 ∨ k = 4 := by
            rw [hk]
            by_cases c : t s = 59
            · rw [if_pos c]; exact Or.inl rfl
            · rw [if_neg c]; exact Or.inr rfl
          refine ⟨si (si ν2 60 14 (nI k)) 60 12 (nI (s + 1)), k, s, s + 1, ?_, (F2.xsi (by omega)).xsi (by omega), ⟨hps, hsn, O, Or.inr ⟨D, nb, Or.inr (Or.inr ⟨dl, dd, rfl, hk⟩)⟩⟩, (gi_sij (by decide)).trans ((gi_sij (by decide)).trans C3), gi_sii, (gi_sij (by decide)).trans gi_sii, (fun h => by omega), (fun h => by omega)⟩
          unfold j_X8_advance_256
          rw [gi_sij (by decide), C4, nI_1]
        by_cases c : t s = 59
        · rw [if_pos (bf.2.2.1.mpr c)]
          exact fin 3 (if_pos c).symm
        · rw [if_neg (fun w => c (bf.2.2.1.mp w))]
          exact fin 4 (if_neg c).symm
end TM

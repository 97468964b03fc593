section TK
variable {μ : gM} {t : Nat → Int32} {n p : Nat}
/-! what is read: tokens, the class's side -/
def blk (x : Int32) : Prop := x = 32 ∨ x = 10
def ltr (x : Int32) : Prop := ¬ x < 97 ∧ ¬ (122 : Int32) < x
def dgt (x : Int32) : Prop := ¬ x < 48 ∧ ¬ (57 : Int32) < x
/-- from p on, a token of kind k lies from s to e -/
def Tok (t : Nat → Int32) (n p k s e : Nat) : Prop := p ≤ s ∧ s ≤ n ∧ (∀ i, p ≤ i → i < s → blk (t i)) ∧ ((s = n ∧ k = 0 ∧ e = s) ∨ (s < n ∧ ¬ blk (t s) ∧
  ((ltr (t s) ∧ k = 1 ∧ s < e ∧ e ≤ n ∧ (∀ i, s ≤ i → i < e → ltr (t i)) ∧ (e = n ∨ ¬ ltr (t e))) ∨ (¬ ltr (t s) ∧ dgt (t s) ∧ k = 2 ∧ s < e ∧ e ≤ n ∧ (∀ i, s ≤ i → i < e → dgt (t i)) ∧ (e = n ∨ ¬ dgt (t e))) ∨
   (¬ ltr (t s) ∧ ¬ dgt (t s) ∧ e = s + 1 ∧ k = if t s = 59 then 3 else 4))))
theorem run_u {P : Int32 → Prop} {s e f : Nat} (h1 : s < e ∧ e ≤ n ∧ (∀ i, s ≤ i → i < e → P (t i)) ∧ (e = n ∨ ¬ P (t e))) (h2 : s < f ∧ f ≤ n ∧ (∀ i, s ≤ i → i < f → P (t i)) ∧ (f = n ∨ ¬ P (t f))) : e = f := by
  rcases Nat.lt_trichotomy e f with h | h | h
  · rcases h1.2.2.2 with w | w
    · omega
    · exact absurd (h2.2.2.1 e (by omega) h) w
  · exact h
  · rcases h2.2.2.2 with w | w
    · omega
    · exact absurd (h1.2.2.1 f (by omega) h) w
theorem Tok_u {k s e k2 s2 e2 : Nat} (h1 : Tok t n p k s e) (h2 : Tok t n p k2 s2 e2) : k = k2 ∧ s = s2 ∧ e = e2 := by
  obtain ⟨a1, a2, a3, a4⟩ := h1
  obtain ⟨b1, b2, b3, b4⟩ := h2
  have es : s = s2 := by
    rcases Nat.lt_trichotomy s s2 with h | h | h
    · rcases a4 with w | w
      · omega
      · exact absurd (b3 s a1 h) w.2.1
    · exact h
    · rcases b4 with w | w
      · omega
      · exact absurd (a3 s2 b1 h) w.2.1
  subst es
  rcases a4 with ⟨c1, c2, c3⟩ | ⟨c1, c2, c3⟩
  · rcases b4 with ⟨d1, d2, d3⟩ | ⟨d1, d2, d3⟩
    · exact ⟨by omega, rfl, by omega⟩
    · omega
  · rcases b4 with ⟨d1, d2, d3⟩ | ⟨d1, d2, d3⟩
    · omega
    · rcases c3 with ⟨x1, x2, x3⟩ | ⟨x1, x2, x3, x4⟩ | ⟨x1, x2, x3, x4⟩ <;> rcases d3 with ⟨y1, y2, y3⟩ | ⟨y1, y2, y3, y4⟩ | ⟨y1, y2, y3, y4⟩
      · exact ⟨by omega, rfl, run_u x3 y3⟩
      · exact absurd x1 y1
      · exact absurd x1 y1
      · exact absurd y1 x1
      · exact ⟨by omega, rfl, run_u x4 y4⟩
      · exact absurd x2 y2
      · exact absurd y1 x1
      · exact absurd y2 x2
      · exact ⟨by rw [x4, y4], rfl, by omega⟩
/-- the class's word and number -/
def wdC (t : Nat → Int32) (s : Nat) : Nat → Int32
  | 0 => 0
  | i + 1 => if 6 ≤ i then wdC t s i else wdC t s i ||| (((t (s + i) - 97) + 1) <<< (((5 : Int32) * ((5 : Int32) - nI i)) &&& 31))
def nbC (t : Nat → Int32) (s : Nat) : Nat → Int32
  | 0 => 0
  | i + 1 => if (9999999 : Int32) < nbC t s i then nbC t s i else ((10 : Int32) * nbC t s i) + (t (s + i) - 48)
/-- cells that the class's reader moves -/
def AF (μ ν : gM) : Prop := (∀ k i, (k ≠ 1 ∨ i < 3 ∨ 7 < i) → ν.1 k i = μ.1 k i) ∧ ν.2 = μ.2
theorem AF.rf (μ : gM) : AF μ μ := ⟨fun _ _ _ => rfl, rfl⟩
theorem AF.tr {μ ν ρ : gM} (h : AF μ ν) (h2 : AF ν ρ) : AF μ ρ := ⟨fun k i x => (h2.1 k i x).trans (h.1 k i x), h2.2.trans h.2⟩
theorem AF.xsi {μ ν : gM} {i : Nat} {x : Int32} (h : AF μ ν) (hi : 3 ≤ i ∧ i ≤ 7) : AF μ (si ν 1 i x) := ⟨fun k j hk => by
  simp only [si]
  rw [if_neg (by omega)]
  exact h.1 k j hk, h.2⟩
theorem c_skip (hn : n ≤ 1200) (h2 : gi μ 1 2 = nI n) (hp : p ≤ n) (h4 : gi μ 1 4 = nI p) : ∃ ν s, gloop (fun t => b_X4_advance_8 t) gFuel (si μ 1 3 (gi μ 1 4)) = some ν ∧ AF μ ν ∧ gi ν 1 3 = nI s ∧ p ≤ s ∧ s ≤ n ∧ (∀ i, p ≤ i → i < s → blk (gi μ 2 i)) ∧ (s = n ∨ (s < n ∧ ¬ blk (gi μ 2 s))) := by
  obtain ⟨ν, h, s, r⟩ := gloop_rel (body := fun t => b_X4_advance_8 t) (fun i ν => AF μ ν ∧ gi ν 1 3 = nI (p + i) ∧ p + i ≤ n ∧ ∀ j, p ≤ j → j < p + i → blk (gi μ 2 j)) (fun ν => ∃ s, AF μ ν ∧ gi ν 1 3 = nI s ∧ p ≤ s ∧ s ≤ n ∧ (∀ i, p ≤ i → i < s → blk (gi μ 2 i)) ∧ (s = n ∨ (s < n ∧ ¬ blk (gi μ 2 s)))) (n - p) (fun i ν hi hR => by
    obtain ⟨F, B, hle, O⟩ := hR
    have e2 : gi ν 1 2 = nI n := (F.1 1 2 (by omega)).trans h2
    have e9 : ∀ j, gi ν 2 j = gi μ 2 j := fun j => F.1 2 j (by omega)
    show (∃ t, b_X4_advance_8 ν = _ ∧ _) ∨ ∃ r, b_X4_advance_8 ν = _ ∧ _
    unfold b_X4_advance_8
    rw [e2, B]
    by_cases c : p + i < n
    · rw [if_neg (nI_ge c (by omega))]
      simp (disch := omega) only [gck, nI_clamp]
      rw [e9, nI_1]
      have nx : blk (gi μ 2 (p + i)) → (AF μ (si ν 1 3 (nI (p + i + 1))) ∧ gi (si ν 1 3 (nI (p + i + 1))) 1 3 = nI (p + (i + 1)) ∧ p + (i + 1) ≤ n ∧ ∀ j, p ≤ j → j < p + (i + 1) → blk (gi μ 2 j)) := fun w => ⟨F.xsi (by omega), gi_sii, by omega, fun j hj1 hj2 => by
        by_cases d : j = p + i
        · rw [d]; exact w
        · exact O j hj1 (by omega)⟩
      by_cases d1 : gi μ 2 (p + i) = 32
      · left
        rw [if_pos d1]
        exact ⟨_, rfl, nx (Or.inl d1), by omega⟩
      · rw [if_neg d1]
        by_cases d2 : gi μ 2 (p + i) = 10
        · left
          rw [if_pos d2]
          exact ⟨_, rfl, nx (Or.inr d2), by omega⟩
        · right
          rw [if_neg d2]
          exact ⟨_, rfl, p + i, F, B, by omega, hle, O, Or.inr ⟨c, fun w => w.elim d1 d2⟩⟩
    · right
      exact ⟨_, if_pos (nI_le (by omega) (by omega)), p + i, F, B, by omega, hle, O, Or.inl (by omega)⟩) (by unfold gFuel; omega) (s0 := si μ 1 3 (gi μ 1 4)) ⟨(AF.rf μ).xsi (by omega), gi_sii.trans h4, by omega, fun j h1 h2 => by omega⟩
  exact ⟨ν, s, h, r⟩
theorem c_scanW {s : Nat} (hn : n ≤ 1200) (h2 : gi μ 1 2 = nI n) (hs : s < n) (h3 : gi μ 1 3 = nI s) (h4 : gi μ 1 4 = nI s) (hl : ltr (gi μ 2 s)) : ∃ ν e, f_X4_scanWord μ = some ν ∧ AF μ ν ∧ gi ν 1 3 = nI s ∧ gi ν 1 4 = nI e ∧ gi ν 1 5 = 1 ∧ gi ν 1 6 = wdC (gi μ 2) s (e - s) ∧ s < e ∧ e ≤ n ∧ (∀ i, s ≤ i → i < e → ltr (gi μ 2 i)) ∧ (e = n ∨ ¬ ltr (gi μ 2 e)) := by
  obtain ⟨ν, h, e, r⟩ := gloop_rel (body := fun t => b_X4_scanWord_10 t) (fun i ν => AF μ ν ∧ gi ν 1 3 = nI s ∧ gi ν 1 4 = nI (s + i) ∧ gi ν 1 5 = 1 ∧ gi ν 1 6 = wdC (gi μ 2) s i ∧ s + i ≤ n ∧ ∀ j, s ≤ j → j < s + i → ltr (gi μ 2 j)) (fun ν => ∃ e, AF μ ν ∧ gi ν 1 3 = nI s ∧ gi ν 1 4 = nI e ∧ gi ν 1 5 = 1 ∧ gi ν 1 6 = wdC (gi μ 2) s (e - s) ∧ s < e ∧ e ≤ n ∧ (∀ i, s ≤ i → i < e → ltr (gi μ 2 i)) ∧ (e = n ∨ ¬ ltr (gi μ 2 e))) (n - s) (fun i ν hi hR => by
    obtain ⟨F, B3, B4, B5, B6, hle, O⟩ := hR
    have e2 : gi ν 1 2 = nI n := (F.1 1 2 (by omega)).trans h2
    have e9 : ∀ j, gi ν 2 j = gi μ 2 j := fun j => F.1 2 j (by omega)
    have i0 : ¬ ltr (gi μ 2 (s + i)) → 0 < i := fun w => by
      refine Nat.pos_of_ne_zero (fun z => w ?_)
      rw [z, Nat.add_zero]; exact hl
    have out : ¬ ltr (gi μ 2 (s + i)) → ∃ e, AF μ ν ∧ gi ν 1 3 = nI s ∧ gi ν 1 4 = nI e ∧ gi ν 1 5 = 1 ∧ gi ν 1 6 = wdC (gi μ 2) s (e - s) ∧ s < e ∧ e ≤ n ∧ (∀ i, s ≤ i → i < e → ltr (gi μ 2 i)) ∧ (e = n ∨ ¬ ltr (gi μ 2 e)) := fun w => by
      have := i0 w
      exact ⟨s + i, F, B3, B4, B5, by rw [Nat.add_sub_cancel_left]; exact B6, by omega, hle, O, Or.inr w⟩
    show (∃ t, b_X4_scanWord_10 ν = _ ∧ _) ∨ ∃ r, b_X4_scanWord_10 ν = _ ∧ _
    unfold b_X4_scanWord_10
    rw [e2, B4, B3]
    by_cases c : s + i < n
    · rw [if_neg (nI_ge c (by omega))]
      simp (disch := omega) only [gck, nI_clamp]
      rw [e9, pk_sub (by omega), Nat.add_sub_cancel_left]
      by_cases d1 : gi μ 2 (s + i) < 97
      · right
        rw [if_pos d1]
        exact ⟨_, rfl, out (fun w => w.1 d1)⟩
      · rw [if_neg d1]
        by_cases d2 : (122 : Int32) < gi μ 2 (s + i)
        · right
          rw [if_pos d2]
          exact ⟨_, rfl, out (fun w => w.2 d2)⟩
        · left
          rw [if_neg d2]
          have O2 : ∀ j, s ≤ j → j < s + (i + 1) → ltr (gi μ 2 j) := fun j hj1 hj2 => by
            by_cases d : j = s + i
            · rw [d]; exact ⟨d1, d2⟩
            · exact O j hj1 (by omega)
          by_cases d3 : 6 ≤ i
          · rw [if_pos (show (6 : Int32) ≤ nI i from nI_le (a := 6) d3 (by omega)), nI_1]
            refine ⟨_, rfl, ⟨F.xsi (by omega), (gi_sij (by decide)).trans B3, gi_sii, (gi_sij (by decide)).trans B5, ?_, by omega, O2⟩, by omega⟩
            rw [gi_sij (by decide), B6]
            exact (if_pos d3).symm
          · rw [if_neg (show ¬ (6 : Int32) ≤ nI i from nI_ge (b := 6) (by omega) (by decide)), gi_sij (by decide), B4, B6, nI_1]
            refine ⟨_, rfl, ⟨(F.xsi (by omega)).xsi (by omega), (gi_sij (by decide)).trans ((gi_sij (by decide)).trans B3), gi_sii, (gi_sij (by decide)).trans ((gi_sij (by decide)).trans B5), ?_, by omega, O2⟩, by omega⟩
            rw [gi_sij (by decide), gi_sii]
            exact (if_neg d3).symm
    · right
      have e : s + i = n := by omega
      refine ⟨_, if_pos (nI_le (by omega) (by omega)), s + i, F, B3, B4, B5, by rw [Nat.add_sub_cancel_left]; exact B6, by omega, hle, O, Or.inl e⟩) (by unfold gFuel; omega) (s0 := si (si μ 1 5 (1 : Int32)) 1 6 (0 : Int32)) ⟨((AF.rf μ).xsi (by omega)).xsi (by omega), (gi_sij (by decide)).trans ((gi_sij (by decide)).trans h3), (gi_sij (by decide)).trans ((gi_sij (by decide)).trans h4), (gi_sij (by decide)).trans gi_sii, gi_sii, by omega, fun j h1 h2 => by omega⟩
  refine ⟨ν, e, ?_, r⟩
  unfold f_X4_scanWord
  rw [h]; rfl
theorem c_scanI {s : Nat} (hn : n ≤ 1200) (h2 : gi μ 1 2 = nI n) (hs : s < n) (h3 : gi μ 1 3 = nI s) (h4 : gi μ 1 4 = nI s) (hl : dgt (gi μ 2 s)) : ∃ ν e, f_X4_scanInteger μ = some ν ∧ AF μ ν ∧ gi ν 1 3 = nI s ∧ gi ν 1 4 = nI e ∧ gi ν 1 5 = 2 ∧ gi ν 1 7 = nbC (gi μ 2) s (e - s) ∧ s < e ∧ e ≤ n ∧ (∀ i, s ≤ i → i < e → dgt (gi μ 2 i)) ∧ (e = n ∨ ¬ dgt (gi μ 2 e)) := by
  obtain ⟨ν, h, e, r⟩ := gloop_rel (body := fun t => b_X4_scanInteger_10 t) (fun i ν => AF μ ν ∧ gi ν 1 3 = nI s ∧ gi ν 1 4 = nI (s + i) ∧ gi ν 1 5 = 2 ∧ gi ν 1 7 = nbC (gi μ 2) s i ∧ s + i ≤ n ∧ ∀ j, s ≤ j → j < s + i → dgt (gi μ 2 j)) (fun ν => ∃ e, AF μ ν ∧ gi ν 1 3 = nI s ∧ gi ν 1 4 = nI e ∧ gi ν 1 5 = 2 ∧ gi ν 1 7 = nbC (gi μ 2) s (e - s) ∧ s < e ∧ e ≤ n ∧ (∀ i, s ≤ i → i < e → dgt (gi μ 2 i)) ∧ (e = n ∨ ¬ dgt (gi μ 2 e))) (n - s) (fun i ν hi hR => by
    obtain ⟨F, B3, B4, B5, B7, hle, O⟩ := hR
    have e2 : gi ν 1 2 = nI n := (F.1 1 2 (by omega)).trans h2
    have e9 : ∀ j, gi ν 2 j = gi μ 2 j := fun j => F.1 2 j (by omega)
    have i0 : ¬ dgt (gi μ 2 (s + i)) → 0 < i := fun w => by
      refine Nat.pos_of_ne_zero (fun z => w ?_)
      rw [z, Nat.add_zero]; exact hl
    have out : ¬ dgt (gi μ 2 (s + i)) → ∃ e, AF μ ν ∧ gi ν 1 3 = nI s ∧ gi ν 1 4 = nI e ∧ gi ν 1 5 = 2 ∧ gi ν 1 7 = nbC (gi μ 2) s (e - s) ∧ s < e ∧ e ≤ n ∧ (∀ i, s ≤ i → i < e → dgt (gi μ 2 i)) ∧ (e = n ∨ ¬ dgt (gi μ 2 e)) := fun w => by
      have := i0 w
      exact ⟨s + i, F, B3, B4, B5, by rw [Nat.add_sub_cancel_left]; exact B7, by omega, hle, O, Or.inr w⟩
    show (∃ t, b_X4_scanInteger_10 ν = _ ∧ _) ∨ ∃ r, b_X4_scanInteger_10 ν = _ ∧ _
    unfold b_X4_scanInteger_10
    rw [e2, B4]
    by_cases c : s + i < n
    · rw [if_neg (nI_ge c (by omega))]
      simp (disch := omega) only [gck, nI_clamp]
      rw [e9, B7]
      by_cases d1 : gi μ 2 (s + i) < 48
      · right
        rw [if_pos d1]
        exact ⟨_, rfl, out (fun w => w.1 d1)⟩
      · rw [if_neg d1]
        by_cases d2 : (57 : Int32) < gi μ 2 (s + i)
        · right
          rw [if_pos d2]
          exact ⟨_, rfl, out (fun w => w.2 d2)⟩
        · left
          rw [if_neg d2]
          have O2 : ∀ j, s ≤ j → j < s + (i + 1) → dgt (gi μ 2 j) := fun j hj1 hj2 => by
            by_cases d : j = s + i
            · rw [d]; exact ⟨d1, d2⟩
            · exact O j hj1 (by omega)
          by_cases d3 : (9999999 : Int32) < nbC (gi μ 2) s i
          · rw [if_pos d3, nI_1]
            refine ⟨_, rfl, ⟨F.xsi (by omega), (gi_sij (by decide)).trans B3, gi_sii, (gi_sij (by decide)).trans B5, ?_, by omega, O2⟩, by omega⟩
            rw [gi_sij (by decide), B7]
            exact (if_pos d3).symm
          · rw [if_neg d3, gi_sij (by decide), B4, nI_1]
            refine ⟨_, rfl, ⟨(F.xsi (by omega)).xsi (by omega), (gi_sij (by decide)).trans ((gi_sij (by decide)).trans B3), gi_sii, (gi_sij (by decide)).trans ((gi_sij (by decide)).trans B5), ?_, by omega, O2⟩, by omega⟩
            rw [gi_sij (by decide), gi_sii]
            exact (if_neg d3).symm
    · right
      have e : s + i = n := by omega
      refine ⟨_, if_pos (nI_le (by omega) (by omega)), s + i, F, B3, B4, B5, by rw [Nat.add_sub_cancel_left]; exact B7, by omega, hle, O, Or.inl e⟩) (by unfold gFuel; omega) (s0 := si (si μ 1 5 (2 : Int32)) 1 7 (0 : Int32)) ⟨((AF.rf μ).xsi (by omega)).xsi (by omega), (gi_sij (by decide)).trans ((gi_sij (by decide)).trans h3), (gi_sij (by decide)).trans ((gi_sij (by decide)).trans h4), (gi_sij (by decide)).trans gi_sii, gi_sii, by omega, fun j h1 h2 => by omega⟩
  refine ⟨ν, e, ?_, r⟩
  unfold f_X4_scanInteger
  rw [h]; rfl
/-- the class takes the next token -/
theorem c_adv (hn : n ≤ 1200) (h2 : gi μ 1 2 = nI n) (hp : p ≤ n) (h4 : gi μ 1 4 = nI p) : ∃ ν k s e, f_X4_advance μ = some ν ∧ AF μ ν ∧ Tok (gi μ 2) n p k s e ∧ gi ν 1 3 = nI s ∧ gi ν 1 4 = nI e ∧ gi ν 1 5 = nI k ∧ (k = 1 → gi ν 1 6 = wdC (gi μ 2) s (e - s)) ∧ (k = 2 → gi ν 1 7 = nbC (gi μ 2) s (e - s)) := by
  obtain ⟨ν1, s, g1, F1, B3, hps, hsn, O, D⟩ := c_skip hn h2 hp h4
  obtain ⟨ν2, e2⟩ : ∃ ν2, ν2 = si ν1 1 4 (nI s) := ⟨_, rfl⟩
  have F2 : AF μ ν2 := by rw [e2]; exact F1.xsi (by omega)
  have C3 : gi ν2 1 3 = nI s := by rw [e2]; exact (gi_sij (by decide)).trans B3
  have C4 : gi ν2 1 4 = nI s := by rw [e2]; exact gi_sii
  have C2 : gi ν2 1 2 = nI n := (F2.1 1 2 (by omega)).trans h2
  have tx : ∀ j, gi ν2 2 j = gi μ 2 j := fun j => F2.1 2 j (by omega)
  have txf : gi ν2 2 = gi μ 2 := funext tx
  have start : f_X4_advance μ = j_X4_advance_60 ν1 := by
    unfold f_X4_advance
    rw [g1]; rfl
  rw [start]
  unfold j_X4_advance_60
  rw [B3, ← e2, C3, C2]
  rcases D with D | ⟨D, nb⟩
  · subst D
    refine ⟨si ν2 1 5 0, 0, s, s, ?_, F2.xsi (by omega), ⟨hps, hsn, O, Or.inl ⟨rfl, rfl, rfl⟩⟩, (gi_sij (by decide)).trans C3, (gi_sij (by decide)).trans C4, gi_sii, (fun h => by cases h), (fun h => by cases h)⟩
    rw [if_neg (nI_nlt (Nat.le_refl _) (by omega))]
  · rw [if_pos (nI_lt D (by omega))]
    have oth : ¬ ltr (gi μ 2 s) → ∃ ν k s2 e, j_X4_advance_122 ν2 = some ν ∧ AF μ ν ∧ Tok (gi μ 2) n p k s2 e ∧ gi ν 1 3 = nI s2 ∧ gi ν 1 4 = nI e ∧ gi ν 1 5 = nI k ∧ (k = 1 → gi ν 1 6 = wdC (gi μ 2) s2 (e - s2)) ∧ (k = 2 → gi ν 1 7 = nbC (gi μ 2) s2 (e - s2)) := fun nl => by
      have ot2 : ¬ dgt (gi μ 2 s) → ∃ ν k s2 e, j_X4_advance_157 ν2 = some ν ∧ AF μ ν ∧ Tok (gi μ 2) n p k s2 e ∧ gi ν 1 3 = nI s2 ∧ gi ν 1 4 = nI e ∧ gi ν 1 5 = nI k ∧ (k = 1 → gi ν 1 6 = wdC (gi μ 2) s2 (e - s2)) ∧ (k = 2 → gi ν 1 7 = nbC (gi μ 2) s2 (e - s2)) := fun nd => by
        have fin : ∀ k : Nat, (k = if gi μ 2 s = 59 then 3 else 4) → j_X4_advance_157 ν2 = j_X4_advance_177 (nI k) ν2 → ∃ ν k s2 e, j_X4_advance_157 ν2 = some ν ∧ AF μ ν ∧ Tok (gi μ 2) n p k s2 e ∧ gi ν 1 3 = nI s2 ∧ gi ν 1 4 = nI e ∧ gi ν 1 5 = nI k ∧ (k = 1 → gi ν 1 6 = wdC (gi μ 2) s2 (e - s2)) ∧ (k = 2 → gi ν 1 7 = nbC (gi μ 2) s2 (e - s2)) := fun k hk w => by
          have k34 : k = 3 ∨ k = 4 := by
            rw [hk]
            by_cases c : gi μ 2 s = 59
            · rw [if_pos c]; exact Or.inl rfl
            · rw [if_neg c]; exact Or.inr rfl
          refine ⟨si (si ν2 1 5 (nI k)) 1 4 (nI (s + 1)), k, s, s + 1, ?_, (F2.xsi (by omega)).xsi (by omega), ⟨hps, hsn, O, Or.inr ⟨D, nb, Or.inr (Or.inr ⟨nl, nd, rfl, hk⟩)⟩⟩, (gi_sij (by decide)).trans ((gi_sij (by decide)).trans C3), gi_sii, (gi_sij (by decide)).trans gi_sii, (fun h => by omega), (fun h => by omega)⟩
          rw [w]
          unfold j_X4_advance_177
          rw [gi_sij (by decide), C4, nI_1]
        have un : j_X4_advance_157 ν2 = if gi μ 2 s = 59 then j_X4_advance_177 3 ν2 else j_X4_advance_177 4 ν2 := by
          unfold j_X4_advance_157
          rw [C3]
          simp (disch := omega) only [gck, nI_clamp]
          rw [tx]
        by_cases c : gi μ 2 s = 59
        · exact fin 3 (if_pos c).symm (by rw [un, if_pos c]; rfl)
        · exact fin 4 (if_neg c).symm (by rw [un, if_neg c]; rfl)
      have un : j_X4_advance_122 ν2 = if gi μ 2 s < 48 then j_X4_advance_157 ν2 else if (57 : Int32) < gi μ 2 s then j_X4_advance_157 ν2 else Option.bind (f_X4_scanInteger ν2) (fun q16 => some q16) := by
        unfold j_X4_advance_122
        rw [C3]
        simp (disch := omega) only [gck, nI_clamp]
        rw [tx]
      rw [un]
      by_cases d1 : gi μ 2 s < 48
      · rw [if_pos d1]; exact ot2 (fun w => w.1 d1)
      · rw [if_neg d1]
        by_cases d2 : (57 : Int32) < gi μ 2 s
        · rw [if_pos d2]; exact ot2 (fun w => w.2 d2)
        · rw [if_neg d2]
          obtain ⟨ν, e, x1, x2, x3, x4, x5, x6, x7, x8, x9, x10⟩ := c_scanI hn C2 D C3 C4 (by rw [tx]; exact ⟨d1, d2⟩)
          rw [txf] at x6 x9 x10
          exact ⟨ν, 2, s, e, by rw [x1]; rfl, F2.tr x2, ⟨hps, hsn, O, Or.inr ⟨D, nb, Or.inr (Or.inl ⟨nl, ⟨d1, d2⟩, rfl, x7, x8, x9, x10⟩)⟩⟩, x3, x4, x5, (fun h => by cases h), fun _ => x6⟩
    simp (disch := omega) only [gck, nI_clamp]
    rw [tx]
    by_cases d1 : gi μ 2 s < 97
    · rw [if_pos d1]; exact oth (fun w => w.1 d1)
    · rw [if_neg d1]
      by_cases d2 : (122 : Int32) < gi μ 2 s
      · rw [if_pos d2]; exact oth (fun w => w.2 d2)
      · rw [if_neg d2]
        obtain ⟨ν, e, x1, x2, x3, x4, x5, x6, x7, x8, x9, x10⟩ := c_scanW hn C2 D C3 C4 (by rw [tx]; exact ⟨d1, d2⟩)
        rw [txf] at x6 x9 x10
        exact ⟨ν, 1, s, e, by rw [x1]; rfl, F2.tr x2, ⟨hps, hsn, O, Or.inr ⟨D, nb, Or.inl ⟨⟨d1, d2⟩, rfl, x7, x8, x9, x10⟩⟩⟩, x3, x4, x5, fun _ => x6, (fun h => by cases h)⟩
end TK

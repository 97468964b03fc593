/-! one operation of the law, and the law's network after it -/
section DOE
variable {v : Nat → Nat → Int32} {ν μ : gM}
def IV (v : Nat → Nat → Int32) (ν μ : gM) : Prop := CO v μ ∧ LM v ν ∧ HA v ν μ ∧ HI μ
theorem LM.of {v' : Nat → Nat → Int32} {ν' : gM} (M : LM v ν) (C' : CI v') (e0 : ∀ b, b < 4 → v' 0 b = v 0 b) (g1 : gi ν' 0 1 = gi ν 0 1) (g2 : gi ν' 0 2 = gi ν 0 2) (g3 : gi ν' 6 2 = gi ν 6 2) (g4 : gi ν' 7 0 = gi ν 7 0) (h8 : gi ν' 8 0 = v' 1 0) (h1 : ∀ l, l < 2 → gi ν' 1 l = v' 3 l) (h2 : ∀ p, p < nP v → gi ν' 2 p = v' 5 p) (hk : ∀ k, k < nN v → gi ν' (20 + k) 0 = v' 6 k ∧ gi ν' (20 + k) 1 = v' 7 k ∧ gi ν' 4 k = v' 8 k ∧ gi ν' 5 k = (if (nA v').testBit k = true then 1 else 0) ∧ gi ν' (40 + k) 2 = v' 9 k ∧ ∀ s, s < ct v' k → ∀ w, w < 4 → gi ν' (100 + 8 * k + s) w = v' 10 (32 * k + 4 * s + w)) : LM v' ν' := by
  have L : nL v' = nL v := congrArg Int32.toNatClampNeg (e0 0 (by decide))
  have P : nP v' = nP v := congrArg Int32.toNatClampNeg (e0 1 (by decide))
  have N : nN v' = nN v := congrArg Int32.toNatClampNeg (e0 2 (by decide))
  have T : nT v' = nT v := congrArg Int32.toNatClampNeg (e0 3 (by decide))
  have e1 : lPt ν' = lPt ν := congrArg Int32.toNatClampNeg g1
  have e2 : lLn ν' = lLn ν := congrArg Int32.toNatClampNeg g2
  have e3 : lLs ν' = lLs ν := congrArg Int32.toNatClampNeg g3
  have eln := M.ll
  have szk : ∀ k, k < nN v → lSz ν' k = ct v' k := fun k h => by unfold lSz; rw [(hk k h).2.2.2.2.1]; rfl
  have cn : ∀ k, k < nN v → 1 ≤ ct v' k ∧ ct v' k ≤ 8 := fun k h => (C'.line (by rw [N]; exact h)).cnt.2
  obtain ⟨m1, m2, m3, m4, m5, m6, m7⟩ := M
  have els : lLs ν = nN v := m7.1.trans eln
  refine ⟨?_, h8, h1, fun p hp => h2 p (by rw [← P]; exact hp), fun k h => hk k (by rw [← N]; exact h), ?_, ?_⟩
  · rw [g1, g2, L, P, N, T]; exact m1
  · unfold lS
    rw [e1, e2, e3, g1, g2, g4, g3]
    exact ⟨m6.1, m6.2.1, m6.2.2.1, fun k h => by rw [els] at h; rw [szk k h]; exact (cn k h).2⟩
  · unfold lF
    rw [e2, e3]
    exact ⟨m7.1, m7.2.1, fun k h => by rw [eln] at h; rw [szk k h]; exact (cn k h).1⟩
theorem HA.n {v' : Nat → Nat → Int32} {ν' μ' : gM} (z : gi μ' 20 2 = 0) (h : gi ν' 0 10 = 0) : HA v' ν' μ' := ⟨Or.inl z, h.trans z.symm, fun w => by rw [z] at w; exact absurd w (by decide)⟩
theorem l_mod (x : Int32) {n : Nat} (h0 : 0 < n) (hn : n < 2 ^ 31) : ∃ m, m < n ∧ ∀ μ, f_L_mod x (nI n) μ = some (nI m) := by
  obtain ⟨j, hj, e⟩ := pk_andE x (m := 2147483647) 31 (by decide)
  refine ⟨j % n, Nat.mod_lt _ h0, fun μ => ?_⟩
  unfold f_L_mod
  rw [gckb (nI_ne0 h0 hn), e, pk_rem hj h0 hn]
theorem l_rest (Co : CO v μ) (M : LM v ν) (hz : gi μ 20 2 = 0 ∨ gi μ 20 2 = 1) (h0 : gi ν 0 10 = 0) : ∃ ν', f_L_restores ν μ = some (true, ν') ∧ LM v ν' ∧ HA v ν' μ := by
  have hb := M.b
  unfold f_L_restores f_X7_isAdjusted
  rcases hz with c | c
  · rw [c]
    exact ⟨ν, rfl, M, HA.n c h0⟩
  · rw [c]
    obtain ⟨ν1, hν1⟩ : ∃ ν1, ν1 = sll (si ν 0 10 1) 9 (fun _ => 0) := ⟨_, rfl⟩
    have g1 : gi ν1 0 10 = 1 := by rw [hν1]; rfl
    have M1 : LM v ν1 := M.cg (fun k i h => by
      rw [hν1]
      show gi (si ν 0 10 1) k i = gi ν k i
      rw [gi_si, if_neg (by omega)])
    have h : ∃ ν', gloop (fun t => b_L_restores_24 t.1 t.2 μ) 9 ((0 : Int32), ν1) = some ν' ∧ LK ν1 ν' ∧ ∀ p, p < nP v → gl ν' 9 p = gl μ 22 p := by
      refine gloop_relN (fun i (t : Int32 × gM) => t.1 = nI i ∧ LK ν1 t.2 ∧ ∀ p, p < i → gl t.2 9 p = gl μ 22 p) (fun ν' => LK ν1 ν' ∧ ∀ p, p < nP v → gl ν' 9 p = gl μ 22 p) (nP v) 9 (fun i t hi hR => ?_) (by omega) ⟨rfl, rfl, fun p hp => absurd hp (Nat.not_lt_zero p)⟩
      obtain ⟨x, ν'⟩ := t
      obtain ⟨e1, K, L⟩ := hR
      have e1 : x = nI i := e1
      subst e1
      have K : LK ν1 ν' := K
      have L : ∀ p, p < i → gl ν' 9 p = gl μ 22 p := L
      have M' : LM v ν' := M1.cg (fun k i _ => by show ν'.1 k i = ν1.1 k i; rw [K])
      have g : gi ν' 0 10 = 1 := by
        show ν'.1 0 10 = 1
        rw [K]; exact g1
      show (∃ t, b_L_restores_24 (nI i) ν' μ = _ ∧ _) ∨ ∃ r, b_L_restores_24 (nI i) ν' μ = _ ∧ _
      unfold b_L_restores_24
      rw [M'.P]
      by_cases d : i = nP v
      · right
        rw [if_pos (nI_le (by omega) (by omega))]
        exact ⟨_, rfl, K, fun p hp => L p (by omega)⟩
      · left
        have hil : i < nP v := by omega
        rw [if_neg (nI_ge hil (by omega)), gckb (by rw [g]; decide), q_heightOf Co (Or.inr c) hil, Option.bind_some, M'.lp]
        simp (disch := omega) only [gck, nI_clamp]
        rw [Option.bind_some, nI_1]
        refine ⟨_, rfl, ⟨rfl, K, fun p hp => ?_⟩, by omega⟩
        show gl (sl ν' 9 i _) 9 p = _
        rw [gl_sl]
        by_cases e : p = i
        · rw [if_pos ⟨rfl, e⟩, e]
          exact if_pos c
        · rw [if_neg (fun w => e w.2)]; exact L p (by omega)
    obtain ⟨ν', h1, K, L⟩ := h
    refine ⟨ν', ?_, M1.cg (fun k i _ => by show ν'.1 k i = ν1.1 k i; rw [K]), Or.inr c, ?_, fun _ => L⟩
    · rw [show i2b (1 : Int32) = some true from i2b_b true, Option.bind_some, Option.bind_some, if_neg (show ¬ b2i true = 0 by decide), Option.bind_some, ← hν1, h1, Option.bind_some]
    · rw [c]
      show ν'.1 0 10 = 1
      rw [K]; exact g1
theorem l_cnt {v' : Nat → Nat → Int32} {ν' : gM} (C : CI v') (M : LM v' ν') (x3 : Int32) : gloop (fun t => b_L_does_110 x3 t.1 t.2 ν' μ) 9 ((0 : Int32), (0 : Int32)) = some (nI (hcN v' (nP v'))) := by
  have hb := M.b
  refine gloop_run (fun i => (nI (hcN v' i), nI i)) (nP v') (fun p hp => ?_) ?_ 9 (by omega)
  · show b_L_does_110 x3 (nI (hcN v' p)) (nI p) ν' μ = some (.inl (nI (if v' 5 p = -1 then hcN v' p else hcN v' p + 1), nI (p + 1)))
    unfold b_L_does_110
    rw [M.P, if_neg (nI_ge hp (by omega))]
    simp (disch := omega) only [gck, nI_clamp]
    rw [M.h hp, nI_1, nI_1, Int32.add_zero]
    by_cases c : v' 5 p = -1
    · rw [if_pos (by rw [c]; decide), if_pos c]
    · have g0 : ¬ v' 5 p < 0 := fun w => by
        have g := (held_ge C hp).mpr c
        rw [Int32.lt_iff_toInt_lt] at w
        rw [Int32.le_iff_toInt_le] at g
        omega
      rw [if_neg g0, if_neg c]
  · show b_L_does_110 x3 _ (nI (nP v')) ν' μ = _
    unfold b_L_does_110
    rw [M.P, if_pos (nI_le (Nat.le_refl _) (by omega))]
theorem LM_v5 (C : CI v) (M : LM v ν) {p : Nat} {x : Int32} (C' : CI (vset v 5 p x)) : LM (vset v 5 p x) (si ν 2 p x) := by
  refine M.of C' (fun b _ => vs_j (by decide)) (gi_sik (by decide)) (gi_sik (by decide)) (gi_sik (by decide)) (gi_sik (by decide)) ?_ (fun l hl => ?_) (fun q hq => ?_) (fun k hk => ?_)
  · rw [gi_sik (by decide), vs_j (by decide)]; exact M.t
  · rw [gi_sik (by decide), vs_j (by decide)]; exact M.c hl
  · by_cases e : q = p
    · rw [e, gi_sii, vs_s]
    · rw [gi_sij e, vs_i e]; exact M.h hq
  · obtain ⟨a, b, c, d, e, f⟩ := M.kk hk
    refine ⟨?_, ?_, ?_, ?_, ?_, fun s hs w hw => ?_⟩
    · rw [gi_sik (by omega), vs_j (by decide)]; exact a
    · rw [gi_sik (by omega), vs_j (by decide)]; exact b
    · rw [gi_sik (by omega), vs_j (by decide)]; exact c
    · rw [gi_sik (by omega)]; exact d
    · rw [gi_sik (by omega), vs_j (by decide)]; exact e
    · rw [gi_sik (by omega), vs_j (by decide)]; exact f s hs w hw
theorem LM_v3 (M : LM v ν) {l : Nat} {x : Int32} (C' : CI (vset v 3 l x)) : LM (vset v 3 l x) (si ν 1 l x) := by
  refine M.of C' (fun b _ => vs_j (by decide)) (gi_sik (by decide)) (gi_sik (by decide)) (gi_sik (by decide)) (gi_sik (by decide)) ?_ (fun q hq => ?_) (fun q hq => ?_) (fun k hk => ?_)
  · rw [gi_sik (by decide), vs_j (by decide)]; exact M.t
  · by_cases e : q = l
    · rw [e, gi_sii, vs_s]
    · rw [gi_sij e, vs_i e]; exact M.c hq
  · rw [gi_sik (by decide), vs_j (by decide)]; exact M.h hq
  · obtain ⟨a, b, c, d, e, f⟩ := M.kk hk
    refine ⟨?_, ?_, ?_, ?_, ?_, fun s hs w hw => ?_⟩
    · rw [gi_sik (by omega), vs_j (by decide)]; exact a
    · rw [gi_sik (by omega), vs_j (by decide)]; exact b
    · rw [gi_sik (by omega), vs_j (by decide)]; exact c
    · rw [gi_sik (by omega)]; exact d
    · rw [gi_sik (by omega), vs_j (by decide)]; exact e
    · rw [gi_sik (by omega), vs_j (by decide)]; exact f s hs w hw
theorem LM_v10 (M : LM v ν) {k0 s0 w0 : Nat} (h0 : s0 < 8) (hw0 : w0 < 4) {x : Int32} (C' : CI (vset v 10 (32 * k0 + 4 * s0 + w0) x)) : LM (vset v 10 (32 * k0 + 4 * s0 + w0) x) (si ν (100 + 8 * k0 + s0) w0 x) := by
  have hb := M.b
  refine M.of C' (fun b _ => vs_j (by decide)) (gi_sik (by omega)) (gi_sik (by omega)) (gi_sik (by omega)) (gi_sik (by omega)) ?_ (fun q hq => ?_) (fun q hq => ?_) (fun k hk => ?_)
  · rw [gi_sik (by omega), vs_j (by decide)]; exact M.t
  · rw [gi_sik (by omega), vs_j (by decide)]; exact M.c hq
  · rw [gi_sik (by omega), vs_j (by decide)]; exact M.h hq
  · obtain ⟨a, b, c, d, e, f⟩ := M.kk hk
    refine ⟨?_, ?_, ?_, ?_, ?_, fun s hs w hw => ?_⟩
    · rw [gi_sik (by omega), vs_j (by decide)]; exact a
    · rw [gi_sik (by omega), vs_j (by decide)]; exact b
    · rw [gi_sik (by omega), vs_j (by decide)]; exact c
    · rw [gi_sik (by omega)]; exact d
    · rw [gi_sik (by omega), vs_j (by decide)]; exact e
    · have hs2 : s < ct v k := hs
      have h8 : s < 8 := by
        have hsz : lSz ν k ≤ 8 := M.2.2.2.2.2.1.2.2.2 k (by rw [M.2.2.2.2.2.2.1, M.ll]; exact hk)
        rw [M.sz hk] at hsz
        omega
      by_cases g : k = k0 ∧ s = s0 ∧ w = w0
      · rw [g.1, g.2.1, g.2.2, gi_sii, vs_s]
      · rw [gi_si, if_neg (by omega), vs_i (by omega)]
        exact f s hs2 w hw
theorem LM_v0 (C : CI v) (M : LM v ν) {A a : Nat} {y : Int32} (hA : A < 2 ^ nN v) (hy : y = 0 ∨ y = 1) (hb : ∀ i, i < 32 → A.testBit i = if i = a then !decide (y = 0) else (nA v).testBit i) : LM (vset v 0 4 (nI A)) (si ν 5 a y) := by
  have C' := CI_v0 C hA
  have eA := nA_vs C hA
  have hbb := M.b
  refine M.of C' (fun b hb => vs_i (by omega)) (gi_sik (by decide)) (gi_sik (by decide)) (gi_sik (by decide)) (gi_sik (by decide)) ?_ (fun q hq => ?_) (fun q hq => ?_) (fun k hk => ?_)
  · rw [gi_sik (by decide), vs_j (by decide)]; exact M.t
  · rw [gi_sik (by decide), vs_j (by decide)]; exact M.c hq
  · rw [gi_sik (by decide), vs_j (by decide)]; exact M.h hq
  · obtain ⟨a1, b, c, d, e, f⟩ := M.kk hk
    refine ⟨?_, ?_, ?_, ?_, ?_, fun s hs w hw => ?_⟩
    · rw [gi_sik (by omega), vs_j (by decide)]; exact a1
    · rw [gi_sik (by omega), vs_j (by decide)]; exact b
    · rw [gi_sik (by omega), vs_j (by decide)]; exact c
    · rw [eA, hb k (by omega)]
      by_cases g : k = a
      · rw [if_pos g, g, gi_sii]
        rcases hy with h | h <;> subst h <;> decide
      · rw [if_neg g, gi_sij g]; exact d
    · rw [gi_sik (by omega), vs_j (by decide)]; exact e
    · rw [gi_sik (by omega), vs_j (by decide)]
      exact f s hs w hw
theorem gi_sia {id k i : Nat} {g : Nat → Int32} : gi (sia ν id g) k i = if k = id then g i else gi ν k i := by
  show (if k = id then g else ν.1 k) i = _
  split <;> rfl
theorem LM_add (M : LM v ν) {a : Nat} (ha : a < nN v) (h8 : ct v a < 8) {x : Nat → Int32} (C' : CI (vadd v a (ct v a) x)) {g : Nat → Int32} (hg : ∀ w, w < 4 → g w = x w) : LM (vadd v a (ct v a) x) (lgrow ν a g) := by
  have hb := M.b
  have eg : ∀ k i, gi (lgrow ν a g) k i = if k = 100 + 8 * a + ct v a then g i else if k = 40 + a ∧ i = 2 then nI (ct v a + 1) else if k = 40 + a ∧ i = 0 then gi ν (40 + a) 0 + 1 else gi ν k i := fun k i => by
    unfold lgrow
    rw [gi_sia, M.sz ha, gi_si, gi_si]
  have o : ∀ k i, k ≠ 100 + 8 * a + ct v a → k ≠ 40 + a → gi (lgrow ν a g) k i = gi ν k i := fun k i h1 h2 => by
    rw [eg, if_neg h1, if_neg (fun w => h2 w.1), if_neg (fun w => h2 w.1)]
  refine M.of C' (fun b _ => va_o (by decide) (by decide)) (o _ _ (by omega) (by omega)) (o _ _ (by omega) (by omega)) (o _ _ (by omega) (by omega)) (o _ _ (by omega) (by omega)) ?_ (fun q hq => ?_) (fun q hq => ?_) (fun k hk => ?_)
  · rw [o _ _ (by omega) (by omega), va_o (by decide) (by decide)]; exact M.t
  · rw [o _ _ (by omega) (by omega), va_o (by decide) (by decide)]; exact M.c hq
  · rw [o _ _ (by omega) (by omega), va_o (by decide) (by decide)]; exact M.h hq
  · obtain ⟨a1, b, c, d, e, f⟩ := M.kk hk
    have hsz : ct v k ≤ 8 := by
      have hsz : lSz ν k ≤ 8 := M.2.2.2.2.2.1.2.2.2 k (by rw [M.2.2.2.2.2.2.1, M.ll]; exact hk)
      rw [M.sz hk] at hsz
      exact hsz
    refine ⟨?_, ?_, ?_, ?_, ?_, fun s hs w hw => ?_⟩
    · rw [o _ _ (by omega) (by omega), va_o (by decide) (by decide)]; exact a1
    · rw [o _ _ (by omega) (by omega), va_o (by decide) (by decide)]; exact b
    · rw [o _ _ (by omega) (by omega), va_o (by decide) (by decide)]; exact c
    · rw [o _ _ (by omega) (by omega), show nA (vadd v a (ct v a) x) = nA v from congrArg Int32.toNatClampNeg (va_o (by decide) (by decide))]; exact d
    · by_cases g2 : k = a
      · rw [g2, eg, if_neg (by omega), if_pos ⟨rfl, rfl⟩, va_9]
      · rw [o _ _ (by omega) (by omega), va_9n g2]; exact e
    · by_cases g2 : k = a
      · subst g2
        rw [va_ct h8] at hs
        by_cases g3 : s = ct v k
        · rw [g3, eg, if_pos rfl, va_in hw]; exact hg w hw
        · rw [o _ _ (by omega) (by omega), va_out (by omega)]; exact f s (by omega) w hw
      · rw [va_ctn g2] at hs
        rw [o _ _ (by omega) (by omega), va_out (by omega)]; exact f s hs w hw
end DOE

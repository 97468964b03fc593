/-! keeping a change -/
def kM (n : Nat) : Nat := if n = 8 then 7 else n
def kS (n : Nat) : Nat := if n = 8 then 1 else 0
def kO (n o : Nat) : Nat := if n = 8 then (o + 1) % 8 else o
def kQ (n o : Nat) : Nat := (kO n o + kM n) % 8
theorem kM_le {n : Nat} (h : n ≤ 8) : kM n ≤ 7 := by
  unfold kM
  split <;> omega
theorem kSM (n : Nat) : kS n + kM n = n := by
  unfold kS kM
  split <;> omega
theorem kO_lt {n o : Nat} (h : o < 8) : kO n o < 8 := by
  unfold kO
  split <;> omega
theorem kO_j (n o j : Nat) : (kO n o + j) % 8 = (o + (kS n + j)) % 8 := by
  unfold kO kS
  split <;> omega
def FrI (kd : Nat) (c : Nat → Int32) (μ ν : gM) : Prop := (∀ k j, k ≠ kd → ν.1 k j = μ.1 k j) ∧ (∀ j, ν.1 kd j = c j) ∧ ν.2 = μ.2
def FrL (kd : Nat) (c : Nat → Int64) (μ ν : gM) : Prop := ν.1 = μ.1 ∧ (∀ k j, k ≠ kd → ν.2 k j = μ.2 k j) ∧ ∀ j, ν.2 kd j = c j
theorem FrI.s {kd d : Nat} {c c2 : Nat → Int32} {x : Int32} {μ ν : gM} (h : FrI kd c μ ν) (hc : ∀ j, c2 j = if j = d then x else c j) : FrI kd c2 μ (si ν kd d x) := by
  refine ⟨fun k j hk => ?_, fun j => ?_, h.2.2⟩
  · show (if k = kd ∧ j = d then x else ν.1 k j) = μ.1 k j
    rw [if_neg (fun w => hk w.1)]; exact h.1 k j hk
  · show (if kd = kd ∧ j = d then x else ν.1 kd j) = c2 j
    rw [hc j, h.2.1 j]
    by_cases e : j = d
    · rw [if_pos ⟨rfl, e⟩, if_pos e]
    · rw [if_neg (fun w => e w.2), if_neg e]
theorem FrL.s {kd d : Nat} {c c2 : Nat → Int64} {x : Int64} {μ ν : gM} (h : FrL kd c μ ν) (hc : ∀ j, c2 j = if j = d then x else c j) : FrL kd c2 μ (sl ν kd d x) := by
  refine ⟨h.1, fun k j hk => ?_, fun j => ?_⟩
  · show (if k = kd ∧ j = d then x else ν.2 k j) = μ.2 k j
    rw [if_neg (fun w => hk w.1)]; exact h.2.1 k j hk
  · show (if kd = kd ∧ j = d then x else ν.2 kd j) = c2 j
    rw [hc j, h.2.2 j]
    by_cases e : j = d
    · rw [if_pos ⟨rfl, e⟩, if_pos e]
    · rw [if_neg (fun w => e w.2), if_neg e]
theorem gcpI {body : Int32 × gM → Option ((Int32 × gM) ⊕ gM)} {μ : gM} (kd a N : Nat) (d : Nat → Nat) (x : Nat → Int32) (c : Nat → Nat → Int32) (hc0 : ∀ j, μ.1 kd j = c 0 j) (hc : ∀ i j, i < N → c (i + 1) j = if j = d i then x i else c i j) (hb : ∀ i ν, i < N → FrI kd (c i) μ ν → body (nI (a + i), ν) = some (.inl (nI (a + i + 1), si ν kd (d i) (x i)))) (he : ∀ ν, FrI kd (c N) μ ν → body (nI (a + N), ν) = some (.inr ν)) (hN : N < gFuel) : ∃ ν, gloop body gFuel (nI a, μ) = some ν ∧ FrI kd (c N) μ ν :=
  gloop_rel (fun i t => t.1 = nI (a + i) ∧ FrI kd (c i) μ t.2) _ N (fun i t hi hR => by
    obtain ⟨y, ν⟩ := t
    obtain ⟨e, F⟩ := hR
    have e : y = nI (a + i) := e
    subst e
    by_cases h : i < N
    · exact Or.inl ⟨_, hb i ν h F, ⟨rfl, F.s (fun j => hc i j h)⟩, h⟩
    · have : i = N := by omega
      subst this
      exact Or.inr ⟨_, he ν F, F⟩) hN ⟨rfl, fun _ _ _ => rfl, hc0, rfl⟩
theorem gcpL {body : Int32 × gM → Option ((Int32 × gM) ⊕ gM)} {μ : gM} (kd a N : Nat) (d : Nat → Nat) (x : Nat → Int64) (c : Nat → Nat → Int64) (hc0 : ∀ j, μ.2 kd j = c 0 j) (hc : ∀ i j, i < N → c (i + 1) j = if j = d i then x i else c i j) (hb : ∀ i ν, i < N → FrL kd (c i) μ ν → body (nI (a + i), ν) = some (.inl (nI (a + i + 1), sl ν kd (d i) (x i)))) (he : ∀ ν, FrL kd (c N) μ ν → body (nI (a + N), ν) = some (.inr ν)) (hN : N < gFuel) : ∃ ν, gloop body gFuel (nI a, μ) = some ν ∧ FrL kd (c N) μ ν :=
  gloop_rel (fun i t => t.1 = nI (a + i) ∧ FrL kd (c i) μ t.2) _ N (fun i t hi hR => by
    obtain ⟨y, ν⟩ := t
    obtain ⟨e, F⟩ := hR
    have e : y = nI (a + i) := e
    subst e
    by_cases h : i < N
    · exact Or.inl ⟨_, hb i ν h F, ⟨rfl, F.s (fun j => hc i j h)⟩, h⟩
    · have : i = N := by omega
      subst this
      exact Or.inr ⟨_, he ν F, F⟩) hN ⟨rfl, rfl, fun _ _ _ => rfl, hc0⟩
/-- m things copied from s to the places from p on -/
def cpI (f g : Nat → Int32) (p i : Nat) : Nat → Int32 := fun j => if p ≤ j ∧ j < p + i then g (j - p) else f j
def cpL (f g : Nat → Int64) (p i : Nat) : Nat → Int64 := fun j => if p ≤ j ∧ j < p + i then g (j - p) else f j
theorem cpI_0 {f g : Nat → Int32} {p j : Nat} : f j = cpI f g p 0 j := (if_neg (fun w => by omega)).symm
theorem cpL_0 {f g : Nat → Int64} {p j : Nat} : f j = cpL f g p 0 j := (if_neg (fun w => by omega)).symm
theorem cpI_s {f g : Nat → Int32} {p i j : Nat} : cpI f g p (i + 1) j = if j = p + i then g i else cpI f g p i j := by
  unfold cpI
  by_cases e : j = p + i
  · rw [if_pos e, if_pos (by omega), show j - p = i by omega]
  · rw [if_neg e]
    by_cases q : p ≤ j ∧ j < p + i
    · rw [if_pos q, if_pos (by omega)]
    · rw [if_neg q, if_neg (by omega)]
theorem cpL_s {f g : Nat → Int64} {p i j : Nat} : cpL f g p (i + 1) j = if j = p + i then g i else cpL f g p i j := by
  unfold cpL
  by_cases e : j = p + i
  · rw [if_pos e, if_pos (by omega), show j - p = i by omega]
  · rw [if_neg e]
    by_cases q : p ≤ j ∧ j < p + i
    · rw [if_pos q, if_pos (by omega)]
    · rw [if_neg q, if_neg (by omega)]
theorem cpI_in {f g : Nat → Int32} {p n i : Nat} (h : i < n) : cpI f g p n (p + i) = g i := by
  unfold cpI
  rw [if_pos (by omega), show p + i - p = i by omega]
theorem cpL_in {f g : Nat → Int64} {p n i : Nat} (h : i < n) : cpL f g p n (p + i) = g i := by
  unfold cpL
  rw [if_pos (by omega), show p + i - p = i by omega]
theorem cpI_out {f g : Nat → Int32} {p n j : Nat} (h : j < p ∨ p + n ≤ j) : cpI f g p n j = f j := if_neg (fun w => by omega)
theorem cpL_out {f g : Nat → Int64} {p n j : Nat} (h : j < p ∨ p + n ≤ j) : cpL f g p n j = f j := if_neg (fun w => by omega)
/-- what keep does to the class's history -/
def KPx (μ ν : gM) (n o : Nat) (K I B : Int32) : Prop := gi ν 28 0 = nI (kM n + 1) ∧ gi ν 28 1 = nI (kO n o) ∧ (∀ j, ν.1 29 j = if j = kQ n o then K else μ.1 29 j) ∧ (∀ j, ν.1 30 j = if j = kQ n o then I else μ.1 30 j) ∧ (∀ j, ν.1 31 j = if j = kQ n o then B else μ.1 31 j) ∧ (∀ j, ν.1 32 j = if j = kQ n o then gi μ 20 2 else μ.1 32 j) ∧ ∀ j, ν.2 33 j = cpL (μ.2 33) (μ.2 22) (16 * kQ n o) 16 j
/-- what remember does to the model's -/
def MRx (μ ν : gM) (n : Nat) : Prop := gi ν 60 5 = nI (kM n + 1) ∧ (∀ j i, j < kM n → i < 703 → ν.1 63 (703 * j + i) = μ.1 63 (703 * (kS n + j) + i)) ∧ (∀ i, i < 703 → ν.1 63 (703 * kM n + i) = μ.1 61 i) ∧ (∀ j i, j < kM n → i < 16 → ν.2 65 (16 * j + i) = μ.2 65 (16 * (kS n + j) + i)) ∧ ∀ i, i < 16 → ν.2 65 (16 * kM n + i) = μ.2 64 i
theorem rem8 {a : Nat} (h : a < 2 ^ 31) : nI a - nI a / (8 : Int32) * (8 : Int32) = nI (a % 8) := by rw [n8]; exact pk_rem h (by decide) (by decide)
theorem c_keep1 {μ : gM} {m o : Nat} (hn : gi μ 28 0 = nI m) (ho : gi μ 28 1 = nI o) (h7 : m ≤ 7) (h8 : o < 8) (hz : gi μ 20 2 = 0 ∨ gi μ 20 2 = 1) (K I B : Int32) : ∃ ν, j_X1_keep_32 K I B μ = some ν ∧ (gi ν 28 0 = nI (m + 1) ∧ gi ν 28 1 = nI o ∧ (∀ j, ν.1 29 j = if j = (o + m) % 8 then K else μ.1 29 j) ∧ (∀ j, ν.1 30 j = if j = (o + m) % 8 then I else μ.1 30 j) ∧ (∀ j, ν.1 31 j = if j = (o + m) % 8 then B else μ.1 31 j) ∧ (∀ j, ν.1 32 j = if j = (o + m) % 8 then gi μ 20 2 else μ.1 32 j) ∧ ∀ j, ν.2 33 j = cpL (μ.2 33) (μ.2 22) (16 * ((o + m) % 8)) 16 j) ∧ (∀ k i, k < 28 ∨ 32 < k → ν.1 k i = μ.1 k i) ∧ ∀ k i, k ≠ 33 → ν.2 k i = μ.2 k i := by
  obtain ⟨q, hq⟩ : ∃ q, q = (o + m) % 8 := ⟨_, rfl⟩
  have hq8 : q < 8 := by omega
  have e : (nI o + nI m) - (nI o + nI m) / (8 : Int32) * (8 : Int32) = nI q := by rw [nI_add, rem8 (by omega), hq]
  have e16 : nI q * (16 : Int32) = nI (16 * q) := by rw [n16, pk_mul, Nat.mul_comm]
  have z0 : (0 : Int32).toNatClampNeg = 0 := by decide
  have z16 : (16 : Int32).toNatClampNeg = 16 := by decide
  have hnar : vp_nar .boolean (gi μ 20 2) = gi μ 20 2 := by
    rcases hz with h | h <;> rw [h] <;> decide
  unfold j_X1_keep_32
  rw [← hq, hn, ho, e, e16, gckb (show ¬ (8 : Int32) = 0 by decide), gck hq8 (by decide), gck hq8 (by decide), gck hq8 (by decide), gck hq8 (by decide), gckb (show ¬ (0 : Int32) < 0 by decide), gckb (nI_pos (show 16 * q < 2 ^ 31 by omega)), gckb (show ¬ (16 : Int32) < 0 by decide), gckb (show (0 : Int32).toNatClampNeg + (16 : Int32).toNatClampNeg ≤ 16 by decide), gckb (show (nI (16 * q)).toNatClampNeg + (16 : Int32).toNatClampNeg ≤ 128 by rw [nI_clamp (show 16 * q < 2 ^ 31 by omega), z16]; omega)]
  rw [z0, z16, nI_clamp (show q < 2 ^ 31 by omega), nI_clamp (show 16 * q < 2 ^ 31 by omega)]
  refine ⟨_, rfl, ⟨?_, ?_, fun j => ?_, fun j => ?_, fun j => ?_, fun j => ?_, fun j => ?_⟩, fun k i hk => ?_, fun k i hk => ?_⟩
  · rw [gi_sii]
    show gi μ 28 0 + 1 = nI (m + 1)
    rw [hn, nI_1]
  · exact ho
  · show (if (29 : Nat) = 29 ∧ j = q then K else μ.1 29 j) = _
    by_cases c : j = q
    · rw [if_pos ⟨rfl, c⟩, if_pos c]
    · rw [if_neg (fun w => c w.2), if_neg c]
  · show (if (30 : Nat) = 30 ∧ j = q then I else μ.1 30 j) = _
    by_cases c : j = q
    · rw [if_pos ⟨rfl, c⟩, if_pos c]
    · rw [if_neg (fun w => c w.2), if_neg c]
  · show (if (31 : Nat) = 31 ∧ j = q then B else μ.1 31 j) = _
    by_cases c : j = q
    · rw [if_pos ⟨rfl, c⟩, if_pos c]
    · rw [if_neg (fun w => c w.2), if_neg c]
  · show (if (32 : Nat) = 32 ∧ j = q then vp_nar .boolean (gi μ 20 2) else μ.1 32 j) = _
    rw [hnar]
    by_cases c : j = q
    · rw [if_pos ⟨rfl, c⟩, if_pos c]
    · rw [if_neg (fun w => c w.2), if_neg c]
  · show (if (33 : Nat) = 33 ∧ 16 * q ≤ j ∧ j < 16 * q + 16 then μ.2 22 (0 + (j - 16 * q)) else μ.2 33 j) = _
    unfold cpL
    by_cases c : 16 * q ≤ j ∧ j < 16 * q + 16
    · rw [if_pos ⟨rfl, c⟩, if_pos c, Nat.zero_add]
    · rw [if_neg (fun w => c w.2), if_neg c]
  · simp only [si, cpl]
    rw [if_neg (by omega), if_neg (by omega), if_neg (by omega), if_neg (by omega), if_neg (by omega)]
  · simp only [si, cpl]
    rw [if_neg (fun w => hk w.1)]
theorem c_keep {μ : gM} {n o : Nat} (hn : gi μ 28 0 = nI n) (ho : gi μ 28 1 = nI o) (h8 : n ≤ 8) (h8o : o < 8) (hz : gi μ 20 2 = 0 ∨ gi μ 20 2 = 1) (K I B : Int32) : ∃ ν, f_X7_keepBefore K I B μ = some ν ∧ KPx μ ν n o K I B ∧ gi ν 20 2 = 0 ∧ (∀ k i, k ≠ 20 → k < 28 ∨ 32 < k → ν.1 k i = μ.1 k i) ∧ ∀ k i, k ≠ 33 → ν.2 k i = μ.2 k i := by
  have fin : ∀ ν, (gi ν 28 0 = nI (kM n + 1) ∧ gi ν 28 1 = nI (kO n o) ∧ (∀ j, ν.1 29 j = if j = kQ n o then K else μ.1 29 j) ∧ (∀ j, ν.1 30 j = if j = kQ n o then I else μ.1 30 j) ∧ (∀ j, ν.1 31 j = if j = kQ n o then B else μ.1 31 j) ∧ (∀ j, ν.1 32 j = if j = kQ n o then gi μ 20 2 else μ.1 32 j) ∧ ∀ j, ν.2 33 j = cpL (μ.2 33) (μ.2 22) (16 * kQ n o) 16 j) → (∀ k i, k < 28 ∨ 32 < k → ν.1 k i = μ.1 k i) → (∀ k i, k ≠ 33 → ν.2 k i = μ.2 k i) → KPx μ (si ν 20 2 0) n o K I B ∧ gi (si ν 20 2 0) 20 2 = 0 ∧ (∀ k i, k ≠ 20 → k < 28 ∨ 32 < k → (si ν 20 2 0).1 k i = μ.1 k i) ∧ ∀ k i, k ≠ 33 → (si ν 20 2 0).2 k i = μ.2 k i := fun ν h1 h2 h3 =>
    ⟨h1, gi_sii, fun k i hk hk2 => (if_neg (fun w => hk w.1)).trans (h2 k i hk2), h3⟩
  unfold f_X7_keepBefore f_X1_keep
  rw [hn]
  by_cases c : n = 8
  · subst c
    rw [if_pos (by decide), gckb (by decide)]
    obtain ⟨ν, e1, P, F1, F2⟩ := c_keep1 (μ := si (si μ 28 1 (((gi μ 28 1) + (1 : Int32)) - ((gi μ 28 1) + (1 : Int32)) / (8 : Int32) * (8 : Int32))) 28 0 ((gi (si μ 28 1 (((gi μ 28 1) + (1 : Int32)) - ((gi μ 28 1) + (1 : Int32)) / (8 : Int32) * (8 : Int32))) 28 0) - (1 : Int32))) (m := 7) (o := (o + 1) % 8) (by
      rw [gi_sii, gi_sij (by decide), hn]; decide) (by
      rw [gi_sij (by decide), gi_sii, ho, nI_1, rem8 (by omega)]) (by decide) (by omega) hz K I B
    rw [e1, Option.bind_some]
    refine ⟨_, rfl, fin ν P (fun k i hk => (F1 k i hk).trans ?_) F2⟩
    simp only [si]
    rw [if_neg (by omega), if_neg (by omega)]
  · rw [if_neg (show ¬ nI n = (8 : Int32) from fun w => c ((nI_eq (b := 8) (by omega) (by decide)).mp w))]
    obtain ⟨ν, e1, P, F1, F2⟩ := c_keep1 hn ho (by omega) h8o hz K I B
    rw [e1, Option.bind_some]
    have q1 : kM n = n := if_neg c
    have q2 : kO n o = o := if_neg c
    refine ⟨_, rfl, fin ν ?_ F1 F2⟩
    unfold kQ
    rw [q1, q2]; exact P
/-- the part of the relation that speaks of the history -/
def HP (v : Nat → Nat → Int32) (μ : gM) : Prop := ∃ n o, n ≤ 8 ∧ o < 8 ∧ gi μ 28 0 = nI n ∧ gi μ 60 5 = nI n ∧ gi μ 28 1 = nI o ∧ RH (μ.1 29) (μ.1 30) (μ.1 31) (μ.1 32) (μ.2 33) o (μ.1 63) (μ.2 65) n v
theorem push {μ ν ρ : gM} {v v2 : Nat → Nat → Int32} {n o : Nat} {K I B : Int32} (h8 : n ≤ 8) (h8o : o < 8) (C : CI v) (D : DM v (μ.1 61)) (H : HM v (gi μ 20 2) (μ.2 22) (μ.1 61) (μ.2 64)) (hR : RH (μ.1 29) (μ.1 30) (μ.1 31) (μ.1 32) (μ.2 33) o (μ.1 63) (μ.2 65) n v) (kp : KPx μ ν n o K I B) (mr : MRx μ ρ n) (e28 : ρ.1 28 = ν.1 28) (e29 : ρ.1 29 = ν.1 29) (e30 : ρ.1 30 = ν.1 30) (e31 : ρ.1 31 = ν.1 31) (e32 : ρ.1 32 = ν.1 32) (e33 : ρ.2 33 = ν.2 33) (hu : undo1 (fun _ => K) (fun _ => I) (fun _ => B) 0 v2 v) : HP v2 ρ := by
  obtain ⟨k0, k1, k2, k3, k4, k5, k6⟩ := kp
  obtain ⟨m0, m1, m2, m3, m4⟩ := mr
  have hm := kM_le h8
  have ho := kO_lt (n := n) h8o
  refine ⟨kM n + 1, kO n o, by omega, ho, ?_, m0, ?_, ?_⟩
  · show ρ.1 28 0 = _
    rw [e28]; exact k0
  · show ρ.1 28 1 = _
    rw [e28]; exact k1
  · rw [e29, e30, e31, e32, e33]
    refine ⟨v, C, ?_, D.cg C m2, ?_, ?_⟩
    · unfold undo1 at hu ⊢
      rw [k2, k3, k4, show (kO n o + kM n) % 8 = kQ n o from rfl, if_pos rfl, if_pos rfl, if_pos rfl]
      exact hu
    · rw [k5, show (kO n o + kM n) % 8 = kQ n o from rfl, if_pos rfl]
      exact H.cg C (m2 702 (by decide)) (fun p hp => (k6 _).trans (cpL_in hp)) m4
    · have hR2 : RH (μ.1 29) (μ.1 30) (μ.1 31) (μ.1 32) (μ.2 33) o (μ.1 63) (μ.2 65) (kS n + kM n) v := by rw [kSM]; exact hR
      refine RH.mv (kM n) v (fun j hj => ?_) hR2
      have hne : (kO n o + j) % 8 ≠ kQ n o := by unfold kQ; omega
      rw [k2, k3, k4, k5, if_neg hne, if_neg hne, if_neg hne, if_neg hne, kO_j]
      refine ⟨rfl, rfl, rfl, rfl, fun p hp => ?_, fun i hi => m1 j i hj hi, fun p hp => m3 j p hj hp⟩
      rw [k6, cpL_out]
      rw [kO_j] at hne
      omega

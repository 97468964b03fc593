section GM
variable {v : Nat → Nat → Int32} {μ : gM}
theorem lt0_I {n : Nat} (h : n < 2 ^ 31) : ¬ nI n < 0 := nI_pos h
theorem TM0_vis {M : Nat → Bool} {X : TP} {ν : gM} {r p k c : Nat} (h : TM0 v M X ν) : TM0 v (uN M (oO v k p) true) (tvis v r p k X) (si (si (si (si ν 60 28 (X.2.2.2.2 ||| ((1 : Int32) <<< (nI k &&& 31)))) 71 (oO v k p) (nI k)) 72 (oO v k p) (nI (X.2.2.2.1 p + 1))) 70 c (nI (oO v k p))) := by
  refine ⟨fun q hq => ?_, fun q hq => ?_, ?_⟩
  · show _ = if uN M (oO v k p) true q = true then nI (uN X.2.2.2.1 (oO v k p) (X.2.2.2.1 p + 1) q) else -1
    rw [gi_sik (by decide)]
    by_cases e : q = oO v k p
    · rw [e, uN_s, uN_s, if_pos rfl, gi_sii]
    · rw [gi_sij e, gi_sik (by decide), gi_sik (by decide), uN_n e, uN_n e]; exact h.1 q hq
  · show _ = if uN M (oO v k p) true q = true then uN X.2.1 (oO v k p) (nI k) q else -1
    rw [gi_sik (by decide), gi_sik (by decide)]
    by_cases e : q = oO v k p
    · rw [e, uN_s, uN_s, if_pos rfl, gi_sii]
    · rw [gi_sij e, gi_sik (by decide), uN_n e, uN_n e]; exact h.2.1 q hq
  · rw [gi_sik (by decide), gi_sik (by decide), gi_sik (by decide), gi_sii]; rfl
theorem m_grow (C : MO v μ) {r : Nat} (hr : r < nP v) {M : Nat → Bool} {X : TP} (hM : M r = false) (H : TA v (nA v) r M X) (R0 : TM0 v M X μ) : ∃ ν, f_X8_grow (nI r) μ = some ν ∧ Fq μ ν ∧ gi ν 60 29 = gi μ 60 29 ∧ TM0 v (tbs v (nA v) M X r (nP v)).1 (tbs v (nA v) M X r (nP v)).2.2.2 ν := by
  have hb := C.1.b
  obtain ⟨A, hA⟩ : ∃ A, A = nA v := ⟨_, rfl⟩
  rw [← hA] at H ⊢
  obtain ⟨ν, h2, F2, E2, R2⟩ := gloop_rel (body := fun t => b_X8_grow_18 t.1 t.2.1 t.2.2) (fun i t => i ≤ nP v ∧ t.1 = nI i ∧ t.2.1 = nI (tbs v A M X r i).2.2.1 ∧ Fq μ t.2.2 ∧ gi t.2.2 60 29 = gi μ 60 29 ∧ TQ 70 (tbs v A M X r i) t.2.2 ∧ TM0 v (tbs v A M X r i).1 (tbs v A M X r i).2.2.2 t.2.2) (fun q => Fq μ q ∧ gi q 60 29 = gi μ 60 29 ∧ TM0 v (tbs v A M X r (nP v)).1 (tbs v A M X r (nP v)).2.2.2 q) (nP v) (fun i t hi hR => by
    obtain ⟨x, y, ν⟩ := t
    obtain ⟨-, e1, e2, F, E, Q, R⟩ := hR
    have e1 : x = nI i := e1
    have e2 : y = nI (tbs v A M X r i).2.2.1 := e2
    subst e1 e2
    replace F : Fq μ ν := F
    replace Q : TQ 70 (tbs v A M X r i) ν := Q
    have I := tbs_I (A := A) (X := X) C.1 hr hM i
    have hcc := I.c
    have stop : (tbs v A M X r i).2.2.1 ≤ i → TM0 v (tbs v A M X r (nP v)).1 (tbs v A M X r (nP v)).2.2.2 ν := fun hs => by
      rw [tbs_st (N := nP v) C.1 hr hM hs hi (Nat.le_refl _)]; exact R
    show (∃ t, b_X8_grow_18 (nI i) (nI (tbs v A M X r i).2.2.1) ν = _ ∧ _) ∨ ∃ q, b_X8_grow_18 _ _ ν = _ ∧ _
    unfold b_X8_grow_18
    by_cases d : (tbs v A M X r i).2.2.1 ≤ i
    · right
      exact ⟨_, if_pos (nI_le d (by omega)), F, E, stop d⟩
    · left
      rw [if_neg (nI_ge (by omega) (by omega)), gck (by omega) (by decide), nI_clamp (by omega), Q i (by omega)]
      have hq := I.2.1 i (by omega)
      obtain ⟨p, hp⟩ : ∃ p, p = (tbs v A M X r i).2.1 i := ⟨_, rfl⟩
      rw [← hp] at hq ⊢
      have G : ∃ q, gloop (fun t => b_X8_grow_37 (nI i + 1) (nI p) t.1 t.2.1 t.2.2) gFuel (nI (tbs v A M X r i).2.2.1, nI 0, ν) = some q ∧ (q.1 = nI (tbs v A M X r (i + 1)).2.2.1 ∧ Fq μ q.2 ∧ gi q.2 60 29 = gi μ 60 29 ∧ TQ 70 (tbs v A M X r (i + 1)) q.2 ∧ TM0 v (tbs v A M X r (i + 1)).1 (tbs v A M X r (i + 1)).2.2.2 q.2) := by
        have es : tbs v A M X r (i + 1) = bs2 (fs v) (sn v) A (tvis v r) p (tbs v A M X r i) (nN v) := by
          rw [tbs_s, if_pos (by omega), ← hp]
        refine gloop_rel (σ := Int32 × Int32 × gM) (fun k t => t.1 = nI (bs2 (fs v) (sn v) A (tvis v r) p (tbs v A M X r i) k).2.2.1 ∧ t.2.1 = nI k ∧ Fq μ t.2.2 ∧ gi t.2.2 60 29 = gi μ 60 29 ∧ TQ 70 (bs2 (fs v) (sn v) A (tvis v r) p (tbs v A M X r i) k) t.2.2 ∧ TM0 v (bs2 (fs v) (sn v) A (tvis v r) p (tbs v A M X r i) k).1 (bs2 (fs v) (sn v) A (tvis v r) p (tbs v A M X r i) k).2.2.2 t.2.2 ∧ TG v A r M X (bs2 (fs v) (sn v) A (tvis v r) p (tbs v A M X r i) k)) _ (nN v) (fun k t hk hR => ?_) (by unfold gFuel; omega) ⟨rfl, rfl, F, E, Q, R, tbs_G C.1 hr hM H i⟩
        obtain ⟨x, y, ν⟩ := t
        obtain ⟨e1, e2, F, E, Q, R, G⟩ := hR
        have e1 : x = nI (bs2 (fs v) (sn v) A (tvis v r) p (tbs v A M X r i) k).2.2.1 := e1
        have e2 : y = nI k := e2
        subst e1 e2
        replace F : Fq μ ν := F
        have D := C.fr F.1
        have I2 := bs2_I (A := A) (vis := tvis v r) (p := p) C.1.g I k hk
        have L2 := bs2_le (f := fs v) (s := sn v) (A := A) (vis := tvis v r) p (tbs v A M X r i) k
        have hpm := L2.2.2 p hq.2
        have hpq : ∃ j, j < (bs2 (fs v) (sn v) A (tvis v r) p (tbs v A M X r i) k).2.2.1 ∧ (bs2 (fs v) (sn v) A (tvis v r) p (tbs v A M X r i) k).2.1 j = p := ⟨i, Nat.lt_of_lt_of_le (by omega) L2.1, (L2.2.1 i (by omega)).trans hp.symm⟩
        have s1 : bs2 (fs v) (sn v) A (tvis v r) p (tbs v A M X r i) (k + 1) = bs1 (fs v) (sn v) A (tvis v r) p k (bs2 (fs v) (sn v) A (tvis v r) p (tbs v A M X r i) k) := rfl
        rw [s1, es]
        obtain ⟨T, hT⟩ : ∃ T, T = bs2 (fs v) (sn v) A (tvis v r) p (tbs v A M X r i) k := ⟨_, rfl⟩
        have hc2 := I2.c
        rw [← hT] at Q R G I2 hpm hpq hc2 ⊢
        replace Q : TQ 70 T ν := Q
        replace R : TM0 v T.1 T.2.2.2 ν := R
        show (∃ t, b_X8_grow_37 (nI i + 1) (nI p) (nI T.2.2.1) (nI k) ν = _ ∧ _) ∨ ∃ q, b_X8_grow_37 _ _ _ _ ν = _ ∧ _
        unfold b_X8_grow_37
        rw [m_cN D, Option.bind_some]
        by_cases c2 : k < nN v
        · left
          rw [if_neg (nI_ge c2 (by omega)), m_touches D c2 (by omega), Option.bind_some, nI_1]
          have ho := brO_lt (p := p) (C.1.g k c2)
          have ho2 : oO v k p < nP v := ho
          unfold bs1
          by_cases t1 : brT (fs v) (sn v) A k p
          · have t1' : (nA v).testBit k = true ∧ (fs v k = p ∨ sn v k = p) := hA ▸ t1
            rw [decide_eq_true t1', if_neg (by decide), m_acr D c2 (by omega), Option.bind_some, Option.bind_some]
            by_cases t2 : T.1 (brO (fs v) (sn v) k p) = false
            · have room := I2.room ho t2
              have tt : brT (fs v) (sn v) A k p ∧ T.1 (brO (fs v) (sn v) k p) = false := ⟨t1, t2⟩
              simp (disch := omega) only [gck, nI_clamp, nI_1]
              have hg8 : gi ν 72 (brO (fs v) (sn v) k p) = -1 := (R.1 _ ho).trans (if_neg (by rw [t2]; decide))
              have hg11 : gi ν 72 p = nI (T.2.2.2.2.2.2.1 p) := (R.1 p hq.1).trans (if_pos hpm)
              rw [hg8, if_pos (by decide), if_pos tt, gi_sik (by decide), gi_sik (by decide), hg11, nI_1, show gi ν 60 28 = T.2.2.2.2.2.2.2 from R.2.2]
              exact ⟨_, rfl, ⟨rfl, rfl, ⟨(((F.1.si rfl).si rfl).si rfl).si rfl, F.2⟩, (gi_sik (by decide)).trans ((gi_sik (by decide)).trans ((gi_sik (by decide)).trans ((gi_sij (by decide)).trans E))), TQ_si (fun j hj => (gi_sik (by decide)).trans ((gi_sik (by decide)).trans ((gi_sik (by decide)).trans (Q j hj)))), TM0_vis R, TG_step C.1 H.1 I2 G c2 hpq hpm t1 t2⟩, c2⟩
            · have hg8 : ¬ gi ν 72 (brO (fs v) (sn v) k p) < 0 := by
                have tm : T.1 (brO (fs v) (sn v) k p) = true := by
                  cases q : T.1 (brO (fs v) (sn v) k p) with
                  | true => rfl
                  | false => exact absurd q t2
                rw [R.1 _ ho, if_pos tm]
                have h9 := G.2.1 _ tm
                have h10 := cntB_le T.1 (nP v)
                exact nI_pos (by omega)
              simp (disch := omega) only [gck, nI_clamp, nI_1]
              rw [if_neg hg8, if_neg (show ¬ (brT (fs v) (sn v) A k p ∧ T.1 (brO (fs v) (sn v) k p) = false) from fun w => t2 w.2)]
              exact ⟨_, rfl, ⟨rfl, rfl, F, E, Q, R, G⟩, c2⟩
          · have t1' : ¬ ((nA v).testBit k = true ∧ (fs v k = p ∨ sn v k = p)) := hA ▸ t1
            rw [decide_eq_false t1', if_pos (show b2i false = 0 from rfl), if_neg (show ¬ (brT (fs v) (sn v) A k p ∧ T.1 (brO (fs v) (sn v) k p) = false) from fun w => t1 w.1)]
            exact ⟨_, rfl, ⟨rfl, rfl, F, E, Q, R, G⟩, c2⟩
        · right
          have e : k = nN v := by omega
          rw [if_pos (nI_le (by omega) (by omega)), ← e, ← hT]
          exact ⟨_, rfl, rfl, F, E, Q, R⟩
      obtain ⟨⟨x, ν2⟩, h3, e3, F3, E3, Q3, R3⟩ := G
      have e3 : x = nI (tbs v A M X r (i + 1)).2.2.1 := e3
      subst e3
      rw [show (0 : Int32) = nI 0 from rfl, h3, Option.bind_some, nI_1]
      exact ⟨_, rfl, ⟨by omega, rfl, rfl, F3, E3, Q3, R3⟩, by omega⟩) (by unfold gFuel; omega) (s0 := (nI 0, nI 1, si (si μ 70 0 (nI r)) 72 r 0)) (by
      refine ⟨by omega, rfl, rfl, ⟨((Fr.rf μ).si rfl).si rfl, rfl⟩, rfl, fun j hj => ?_, fun q hq => ?_, fun q hq => ?_, ?_⟩
      · have : j = 0 := by have : j < 1 := hj; omega
        subst this
        exact (gi_sik (by decide)).trans gi_sii
      · show gi (si (si μ 70 0 (nI r)) 72 r 0) 72 q = if uN M r true q = true then nI (uN X.2.2.2.1 r 0 q) else -1
        by_cases e : q = r
        · rw [e, uN_s, uN_s, if_pos rfl, gi_sii]; rfl
        · rw [gi_sij e, gi_sik (by decide), uN_n e, uN_n e]; exact R0.1 q hq
      · show gi (si (si μ 70 0 (nI r)) 72 r 0) 71 q = if uN M r true q = true then uN X.2.1 r (-1) q else -1
        rw [gi_sik (by decide), gi_sik (by decide)]
        by_cases e : q = r
        · rw [e, uN_s, uN_s, if_pos rfl]
          exact (R0.2.1 r hr).trans (if_neg (by rw [hM]; decide))
        · rw [uN_n e, uN_n e]; exact R0.2.1 q hq
      · exact R0.2.2)
  refine ⟨ν, ?_, F2, E2, R2⟩
  unfold f_X8_grow
  rw [gckb (by decide), gck (by omega) (by decide), nI_clamp (by omega), show (0 : Int32).toNatClampNeg = 0 by decide, show gloop (fun t => b_X8_grow_18 t.1 t.2.1 t.2.2) gFuel ((0 : Int32), (1 : Int32), si (si μ 70 0 (nI r)) 72 r 0) = _ from h2]
  rfl
/-! the lines that close a loop -/
abbrev lpB (A : Nat) (b : Int32) (k : Nat) : Prop := A.testBit k = true ∧ bt b k = false
def lc (A : Nat) (b : Int32) : Nat → Nat
  | 0 => 0
  | k + 1 => if lpB A b k then lc A b k + 1 else lc A b k
theorem lc_le (A : Nat) (b : Int32) : ∀ k, lc A b k ≤ k
  | 0 => Nat.le_refl _
  | k + 1 => by
    have := lc_le A b k
    unfold lc
    split <;> omega
theorem lc_mo (A : Nat) (b : Int32) {j : Nat} : ∀ k, j ≤ k → lc A b j ≤ lc A b k
  | 0, h => by rw [show j = 0 by omega]; exact Nat.le_refl _
  | k + 1, h => by
    by_cases e : j = k + 1
    · rw [e]; exact Nat.le_refl _
    · have := lc_mo A b k (show j ≤ k by omega)
      show _ ≤ if lpB A b k then lc A b k + 1 else lc A b k
      split <;> omega
theorem lc_in {A : Nat} {b : Int32} {k N : Nat} (hk : k < N) (h : lpB A b k) : lc A b k < lc A b N := by
  have := lc_mo A b (j := k + 1) N hk
  rw [show lc A b (k + 1) = lc A b k + 1 from if_pos h] at this
  omega
/-- each index below the count is a line's -/
theorem lc_ex {A : Nat} {b : Int32} {j : Nat} : ∀ N, j < lc A b N → ∃ k, k < N ∧ lpB A b k ∧ lc A b k = j
  | 0, h => absurd h (Nat.not_lt_zero _)
  | N + 1, h => by
    by_cases c : lpB A b N
    · rw [show lc A b (N + 1) = lc A b N + 1 from if_pos c] at h
      by_cases e : j = lc A b N
      · exact ⟨N, by omega, c, e.symm⟩
      · obtain ⟨k, a, r⟩ := lc_ex N (show j < lc A b N by omega)
        exact ⟨k, by omega, r⟩
    · rw [show lc A b (N + 1) = lc A b N from if_neg c] at h
      obtain ⟨k, a, r⟩ := lc_ex N h
      exact ⟨k, by omega, r⟩
/-- the tree lines, and the number of loops -/
def tbr (v : Nat → Nat → Int32) (A : Nat) : Int32 := (tgr v A (nP v)).2.1.2.2.2.2
def nlp (v : Nat → Nat → Int32) (A : Nat) : Nat := lc A (tbr v A) (nN v)
/-- what the model holds when loops are laid -/
def LL (v : Nat → Nat → Int32) (ν : gM) : Prop := TM0 v (tgr v (nA v) (nP v)).1 (tgr v (nA v) (nP v)).2.1 ν ∧ gi ν 60 29 = nI (nlp v (nA v)) ∧ ∀ k, k < nN v → lpB (nA v) (tbr v (nA v)) k → gi ν 73 (lc (nA v) (tbr v (nA v)) k) = nI k
theorem m_layL (C : MO v μ) : ∃ ν, f_X8_layLoops μ = some ν ∧ Fq μ ν ∧ LL v ν := by
  have hb := C.1.b
  obtain ⟨ν1, h1, F1, B1, E1, Z1, Y1⟩ := gloop_rel (body := fun t => b_X8_layLoops_12 t.1 t.2) (fun i t => i ≤ 16 ∧ t.1 = nI i ∧ Fq μ t.2 ∧ gi t.2 60 28 = 0 ∧ gi t.2 60 29 = 0 ∧ (∀ q, q < i → gi t.2 72 q = -1) ∧ ∀ q, q < i → gi t.2 71 q = -1) (fun r => Fq μ r ∧ gi r 60 28 = 0 ∧ gi r 60 29 = 0 ∧ (∀ q, q < 16 → gi r 72 q = -1) ∧ ∀ q, q < 16 → gi r 71 q = -1) 16 (fun i t hi hR => by
    obtain ⟨x, ν⟩ := t
    obtain ⟨-, e1, F, B, E, Z, Y⟩ := hR
    have e1 : x = nI i := e1
    subst e1
    replace F : Fq μ ν := F
    show (∃ t, b_X8_layLoops_12 (nI i) ν = _ ∧ _) ∨ ∃ q, b_X8_layLoops_12 _ ν = _ ∧ _
    unfold b_X8_layLoops_12
    by_cases c : i < 16
    · left
      rw [if_neg (ge16 c)]
      simp (disch := omega) only [gck, nI_clamp, nI_1]
      refine ⟨_, rfl, ⟨by omega, rfl, ⟨(F.1.si rfl).si rfl, F.2⟩, B, E, fun q hq => ?_, fun q hq => ?_⟩, c⟩
      · show gi (si (si ν 72 i (-1)) 71 i (-1)) 72 q = -1
        rw [gi_sik (by decide)]
        by_cases e : q = i
        · rw [e]; exact gi_sii
        · exact (gi_sij e).trans (Z q (by omega))
      · show gi (si (si ν 72 i (-1)) 71 i (-1)) 71 q = -1
        by_cases e : q = i
        · rw [e]; exact gi_sii
        · exact (gi_sij e).trans ((gi_sik (by decide)).trans (Y q (by omega)))
    · right
      have e : i = 16 := by omega
      subst e
      exact ⟨_, if_pos (show (16 : Int32) ≤ nI 16 by decide), F, B, E, Z, Y⟩) (by unfold gFuel; omega) (s0 := (nI 0, si (si μ 60 28 0) 60 29 0)) ⟨by omega, rfl, ⟨((Fr.rf μ).si rfl).si rfl, rfl⟩, rfl, rfl, fun q hq => absurd hq (Nat.not_lt_zero _), fun q hq => absurd hq (Nat.not_lt_zero _)⟩
  obtain ⟨ν2, h2, F2, E2, R2⟩ := gloop_rel (body := fun t => b_X8_layLoops_40 t.1 t.2) (fun i t => i ≤ nP v ∧ t.1 = nI i ∧ Fq μ t.2 ∧ gi t.2 60 29 = 0 ∧ TM0 v (tgr v (nA v) i).1 (tgr v (nA v) i).2.1 t.2) (fun r => Fq μ r ∧ gi r 60 29 = 0 ∧ TM0 v (tgr v (nA v) (nP v)).1 (tgr v (nA v) (nP v)).2.1 r) (nP v) (fun i t hi hR => by
    obtain ⟨x, ν⟩ := t
    obtain ⟨-, e1, F, E, R⟩ := hR
    have e1 : x = nI i := e1
    subst e1
    replace F : Fq μ ν := F
    replace R : TM0 v (tgr v (nA v) i).1 (tgr v (nA v) i).2.1 ν := R
    have D := C.fr F.1
    have H := tgr_A (A := nA v) C.1 i hi
    show (∃ t, b_X8_layLoops_40 (nI i) ν = _ ∧ _) ∨ ∃ q, b_X8_layLoops_40 _ ν = _ ∧ _
    unfold b_X8_layLoops_40
    rw [m_cP D, Option.bind_some]
    by_cases c : i < nP v
    · left
      rw [if_neg (nI_ge c (by omega)), gck (by omega) (by decide), nI_clamp (by omega), nI_1, tgr_s]
      by_cases d : (tgr v (nA v) i).1 i = true
      · rw [if_pos d, if_pos (show 0 ≤ gi ν 72 i from by
          rw [R.1 i c, if_pos d]
          have h9 := H.2.2.1 i d
          have h10 := cntB_le (tgr v (nA v) i).1 (nP v)
          exact nI_pos' (by omega))]
        exact ⟨_, rfl, ⟨by omega, rfl, F, E, R⟩, c⟩
      · have dM : (tgr v (nA v) i).1 i = false := Bool.eq_false_iff.mpr d
        rw [if_neg d, if_neg (show ¬ 0 ≤ gi ν 72 i from by rw [R.1 i c, if_neg d]; decide)]
        obtain ⟨ν2, g1, g2, g3, g4⟩ := m_grow D c dM H R
        rw [g1, Option.bind_some]
        exact ⟨_, rfl, ⟨by omega, rfl, F.tr g2, g3.trans E, g4⟩, c⟩
    · right
      have e : i = nP v := by omega
      subst e
      exact ⟨_, if_pos (nI_le (Nat.le_refl _) (by omega)), F, E, R⟩) (by unfold gFuel; omega) (s0 := (nI 0, ν1)) ⟨by omega, rfl, F1, E1, fun q hq => (Z1 q (by omega)).trans (if_neg (by show ¬ (false = true); decide)).symm, fun q hq => (Y1 q (by omega)).trans (if_neg (by show ¬ (false = true); decide)).symm, B1⟩
  obtain ⟨ν, h3, F3, R3⟩ := gloop_rel (body := fun t => b_X8_layLoops_71 t.1 t.2) (fun i t => i ≤ nN v ∧ t.1 = nI i ∧ Fq μ t.2 ∧ TM0 v (tgr v (nA v) (nP v)).1 (tgr v (nA v) (nP v)).2.1 t.2 ∧ gi t.2 60 29 = nI (lc (nA v) (tbr v (nA v)) i) ∧ ∀ k, k < i → lpB (nA v) (tbr v (nA v)) k → gi t.2 73 (lc (nA v) (tbr v (nA v)) k) = nI k) (fun r => Fq μ r ∧ LL v r) (nN v) (fun i t hi hR => by
    obtain ⟨x, ν⟩ := t
    obtain ⟨-, e1, F, R, E, O⟩ := hR
    have e1 : x = nI i := e1
    subst e1
    replace F : Fq μ ν := F
    replace E : gi ν 60 29 = nI (lc (nA v) (tbr v (nA v)) i) := E
    replace R : TM0 v (tgr v (nA v) (nP v)).1 (tgr v (nA v) (nP v)).2.1 ν := R
    have D := C.fr F.1
    show (∃ t, b_X8_layLoops_71 (nI i) ν = _ ∧ _) ∨ ∃ q, b_X8_layLoops_71 _ ν = _ ∧ _
    unfold b_X8_layLoops_71
    rw [m_cN D, Option.bind_some]
    by_cases c : i < nN v
    · left
      have hl := lc_le (nA v) (tbr v (nA v)) i
      rw [if_neg (nI_ge c (by omega)), m_isActive D c, Option.bind_some, show gi ν 60 28 = tbr v (nA v) from R.2.2, m_hasb (by omega), Option.bind_some, nI_1, E]
      by_cases d : lpB (nA v) (tbr v (nA v)) i
      · rw [if_neg (show ¬ b2i ((nA v).testBit i) = 0 from by rw [d.1]; decide), if_pos (show b2i (bt (tbr v (nA v)) i) = 0 from by rw [d.2]; rfl)]
        simp (disch := omega) only [gck, nI_clamp]
        rw [gi_sik (by decide), E, nI_1]
        refine ⟨_, rfl, ⟨by omega, rfl, ⟨(F.1.si rfl).si rfl, F.2⟩, ⟨R.1, R.2.1, R.2.2⟩, ?_, fun k hk hp => ?_⟩, c⟩
        · show gi (si (si ν 73 _ _) 60 29 _) 60 29 = _
          rw [gi_sii, show lc (nA v) (tbr v (nA v)) (i + 1) = _ from if_pos d]
        · show gi (si (si ν 73 _ _) 60 29 _) 73 _ = _
          rw [gi_sik (by decide)]
          by_cases e : k = i
          · rw [e]; exact gi_sii
          · have hki : k < i := by omega
            have := lc_in (N := i) hki hp
            exact (gi_sij (by omega)).trans (O k hki hp)
      · have e1 : lc (nA v) (tbr v (nA v)) (i + 1) = lc (nA v) (tbr v (nA v)) i := if_neg d
        have O2 : ∀ k, k < i + 1 → lpB (nA v) (tbr v (nA v)) k → gi ν 73 (lc (nA v) (tbr v (nA v)) k) = nI k := fun k hk hp => O k (by
          have : k ≠ i := fun w => d (w ▸ hp)
          omega) hp
        rw [e1]
        by_cases a : (nA v).testBit i = true
        · rw [if_neg (show ¬ b2i ((nA v).testBit i) = 0 from by rw [a]; decide), if_neg (show ¬ b2i (bt (tbr v (nA v)) i) = 0 from fun w => d ⟨a, b2i_0.mp w⟩)]
          exact ⟨_, rfl, ⟨by omega, rfl, F, R, E, O2⟩, c⟩
        · rw [if_pos (show b2i ((nA v).testBit i) = 0 from b2i_0.mpr (Bool.eq_false_iff.mpr a))]
          exact ⟨_, rfl, ⟨by omega, rfl, F, R, E, O2⟩, c⟩
    · right
      have e : i = nN v := by omega
      subst e
      exact ⟨_, if_pos (nI_le (Nat.le_refl _) (by omega)), F, R, E, O⟩) (by unfold gFuel; omega) (s0 := (nI 0, ν2)) ⟨by omega, rfl, F2, R2, E2, fun k hk => absurd hk (Nat.not_lt_zero _)⟩
  refine ⟨ν, ?_, F3, R3⟩
  unfold f_X8_layLoops
  rw [show gloop (fun t => b_X8_layLoops_12 t.1 t.2) gFuel ((0 : Int32), si (si μ 60 28 0) 60 29 0) = _ from h1, Option.bind_some, show gloop (fun t => b_X8_layLoops_40 t.1 t.2) gFuel ((0 : Int32), ν1) = _ from h2, Option.bind_some, show gloop (fun t => b_X8_layLoops_71 t.1 t.2) gFuel ((0 : Int32), ν2) = _ from h3]
  rfl
end GM

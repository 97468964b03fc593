section GR
variable {v : Nat → Nat → Int32} {μ : gM} {A : Nat}
/-! both sides grow the trees -/
def TC0 (v : Nat → Nat → Int32) (M : Nat → Bool) (X : TP) (μ : gM) : Prop := (∀ p, p < nP v → gi μ 8 p = if M p = true then nI (X.1 p) else -1) ∧ (∀ p, p < nP v → M p = true → gi μ 9 p = X.2.1 p ∧ gi μ 10 p = nI (X.2.2.1 p) ∧ gi μ 11 p = nI (X.2.2.2.1 p)) ∧ gi μ 7 5 = X.2.2.2.2
def TM0 (v : Nat → Nat → Int32) (M : Nat → Bool) (X : TP) (μ : gM) : Prop := (∀ p, p < nP v → gi μ 72 p = if M p = true then nI (X.2.2.2.1 p) else -1) ∧ (∀ p, p < nP v → gi μ 71 p = if M p = true then X.2.1 p else -1) ∧ gi μ 60 28 = X.2.2.2.2
def TQ (q : Nat) (S : BS TP) (μ : gM) : Prop := ∀ j, j < S.2.2.1 → gi μ q j = nI (S.2.1 j)
theorem TQ_si {q o : Nat} {T : BS TP} {ν : gM} {Y : TP} (h : TQ q T ν) : TQ q (uN T.1 o true, uN T.2.1 T.2.2.1 o, T.2.2.1 + 1, Y) (si ν q T.2.2.1 (nI o)) := fun j hj => by
  show gi (si ν q T.2.2.1 (nI o)) q j = nI (uN T.2.1 T.2.2.1 o j)
  by_cases c : j = T.2.2.1
  · rw [c, uN_s, gi_sii]
  · rw [uN_n c, gi_sij c]
    exact h j (by have : j < T.2.2.1 + 1 := hj; omega)
theorem TC0_vis {M : Nat → Bool} {X : TP} {ν : gM} {r p k c : Nat} (hM : M (oO v k p) = false) (h : TC0 v M X ν) : TC0 v (uN M (oO v k p) true) (tvis v r p k X) (si (si (si (si (si (si ν 7 5 (X.2.2.2.2 ||| ((1 : Int32) <<< (nI k &&& 31)))) 8 (oO v k p) (nI r)) 9 (oO v k p) (nI k)) 10 (oO v k p) (nI p)) 11 (oO v k p) (nI (X.2.2.2.1 p + 1))) 12 c (nI (oO v k p))) := by
  refine ⟨fun q hq => ?_, fun q hq hm => ?_, ?_⟩
  · show _ = if uN M (oO v k p) true q = true then nI (uN X.1 (oO v k p) r q) else -1
    rw [gi_sik (by decide), gi_sik (by decide), gi_sik (by decide), gi_sik (by decide)]
    by_cases e : q = oO v k p
    · rw [e, uN_s, uN_s, if_pos rfl, gi_sii]
    · rw [gi_sij e, gi_sik (by decide), uN_n e, uN_n e]; exact h.1 q hq
  · show _ = uN X.2.1 (oO v k p) (nI k) q ∧ _ = nI (uN X.2.2.1 (oO v k p) p q) ∧ _ = nI (uN X.2.2.2.1 (oO v k p) (X.2.2.2.1 p + 1) q)
    by_cases e : q = oO v k p
    · rw [e, uN_s, uN_s, uN_s]
      exact ⟨(gi_sik (by decide)).trans ((gi_sik (by decide)).trans ((gi_sik (by decide)).trans gi_sii)), (gi_sik (by decide)).trans ((gi_sik (by decide)).trans gi_sii), (gi_sik (by decide)).trans gi_sii⟩
    · have hm2 : uN M (oO v k p) true q = true := hm
      rw [uN_n e] at hm2
      have H := h.2.1 q hq hm2
      rw [uN_n e, uN_n e, uN_n e]
      refine ⟨?_, ?_, ?_⟩
      · rw [gi_sik (by decide), gi_sik (by decide), gi_sik (by decide), gi_sij e, gi_sik (by decide), gi_sik (by decide)]; exact H.1
      · rw [gi_sik (by decide), gi_sik (by decide), gi_sij e, gi_sik (by decide), gi_sik (by decide), gi_sik (by decide)]; exact H.2.1
      · rw [gi_sik (by decide), gi_sij e, gi_sik (by decide), gi_sik (by decide), gi_sik (by decide), gi_sik (by decide)]; exact H.2.2
  · rw [gi_sik (by decide), gi_sik (by decide), gi_sik (by decide), gi_sik (by decide), gi_sik (by decide), gi_sii]; rfl
theorem c_spread (C : CO v μ) (hA : A < 2 ^ 31) {r : Nat} (hr : r < nP v) {M : Nat → Bool} {X : TP} (hM : M r = false) (H : TA v A r M X) (R0 : TC0 v M X μ) : ∃ ν, f_X5_spread (nI A) (nI r) μ = some ν ∧ Fr μ ν ∧ gi ν 7 6 = gi μ 7 6 ∧ TC0 v (tbs v A M X r (nP v)).1 (tbs v A M X r (nP v)).2.2.2 ν := by
  have hb := C.1.b
  obtain ⟨ν, h2, F2, E2, R2⟩ := gloop_rel (body := fun t => b_X5_spread_41 (nI A) (nI r) t.1 t.2.1 t.2.2) (fun i t => i ≤ nP v ∧ t.1 = nI (tbs v A M X r i).2.2.1 ∧ t.2.1 = nI i ∧ Fr μ t.2.2 ∧ gi t.2.2 7 6 = gi μ 7 6 ∧ TQ 12 (tbs v A M X r i) t.2.2 ∧ TC0 v (tbs v A M X r i).1 (tbs v A M X r i).2.2.2 t.2.2) (fun q => Fr μ q ∧ gi q 7 6 = gi μ 7 6 ∧ TC0 v (tbs v A M X r (nP v)).1 (tbs v A M X r (nP v)).2.2.2 q) (nP v) (fun i t hi hR => by
    obtain ⟨x, y, ν⟩ := t
    obtain ⟨-, e1, e2, F, E, Q, R⟩ := hR
    have e1 : x = nI (tbs v A M X r i).2.2.1 := e1
    have e2 : y = nI i := e2
    subst e1 e2
    replace F : Fr μ ν := F
    replace Q : TQ 12 (tbs v A M X r i) ν := Q
    have D := C.fr F
    have I := tbs_I (A := A) (X := X) C.1 hr hM i
    have hcc := I.c
    have stop : (tbs v A M X r i).2.2.1 ≤ i → TC0 v (tbs v A M X r (nP v)).1 (tbs v A M X r (nP v)).2.2.2 ν := fun hs => by
      rw [tbs_st (N := nP v) C.1 hr hM hs hi (Nat.le_refl _)]; exact R
    show (∃ t, b_X5_spread_41 (nI A) (nI r) (nI (tbs v A M X r i).2.2.1) (nI i) ν = _ ∧ _) ∨ ∃ q, b_X5_spread_41 _ _ _ _ ν = _ ∧ _
    unfold b_X5_spread_41
    rw [D.P]
    by_cases c : i < nP v
    · rw [if_neg (nI_ge c (by omega))]
      by_cases d : (tbs v A M X r i).2.2.1 ≤ i
      · right
        exact ⟨_, if_pos (nI_le d (by omega)), F, E, stop d⟩
      · left
        rw [if_neg (nI_ge (by omega) (by omega)), gck (by omega) (by decide), nI_clamp (by omega), Q i (by omega)]
        have hq := I.2.1 i (by omega)
        obtain ⟨p, hp⟩ : ∃ p, p = (tbs v A M X r i).2.1 i := ⟨_, rfl⟩
        rw [← hp] at hq ⊢
        have G : ∃ q, gloop (fun t => b_X5_spread_69 (nI A) (nI r) (nI i) (nI p) t.1 t.2.1 t.2.2) gFuel (nI (tbs v A M X r i).2.2.1, nI 0, ν) = some q ∧ (q.1 = nI (tbs v A M X r (i + 1)).2.2.1 ∧ Fr μ q.2 ∧ gi q.2 7 6 = gi μ 7 6 ∧ TQ 12 (tbs v A M X r (i + 1)) q.2 ∧ TC0 v (tbs v A M X r (i + 1)).1 (tbs v A M X r (i + 1)).2.2.2 q.2) := by
          have es : tbs v A M X r (i + 1) = bs2 (fs v) (sn v) A (tvis v r) p (tbs v A M X r i) (nN v) := by
            rw [tbs_s, if_pos (by omega), ← hp]
          refine gloop_rel (σ := Int32 × Int32 × gM) (fun k t => t.1 = nI (bs2 (fs v) (sn v) A (tvis v r) p (tbs v A M X r i) k).2.2.1 ∧ t.2.1 = nI k ∧ Fr μ t.2.2 ∧ gi t.2.2 7 6 = gi μ 7 6 ∧ TQ 12 (bs2 (fs v) (sn v) A (tvis v r) p (tbs v A M X r i) k) t.2.2 ∧ TC0 v (bs2 (fs v) (sn v) A (tvis v r) p (tbs v A M X r i) k).1 (bs2 (fs v) (sn v) A (tvis v r) p (tbs v A M X r i) k).2.2.2 t.2.2 ∧ TG v A r M X (bs2 (fs v) (sn v) A (tvis v r) p (tbs v A M X r i) k)) _ (nN v) (fun k t hk hR => ?_) (by unfold gFuel; omega) ⟨rfl, rfl, F, E, Q, R, tbs_G C.1 hr hM H i⟩
          obtain ⟨x, y, ν⟩ := t
          obtain ⟨e1, e2, F, E, Q, R, G⟩ := hR
          have e1 : x = nI (bs2 (fs v) (sn v) A (tvis v r) p (tbs v A M X r i) k).2.2.1 := e1
          have e2 : y = nI k := e2
          subst e1 e2
          replace F : Fr μ ν := F
          have D := C.fr F
          have I2 := bs2_I (A := A) (vis := tvis v r) (p := p) C.1.g I k hk
          have L2 := bs2_le (f := fs v) (s := sn v) (A := A) (vis := tvis v r) p (tbs v A M X r i) k
          have hpm := L2.2.2 p hq.2
          have hpq : ∃ j, j < (bs2 (fs v) (sn v) A (tvis v r) p (tbs v A M X r i) k).2.2.1 ∧ (bs2 (fs v) (sn v) A (tvis v r) p (tbs v A M X r i) k).2.1 j = p := ⟨i, Nat.lt_of_lt_of_le (by omega) L2.1, (L2.2.1 i (by omega)).trans hp.symm⟩
          have s1 : bs2 (fs v) (sn v) A (tvis v r) p (tbs v A M X r i) (k + 1) = bs1 (fs v) (sn v) A (tvis v r) p k (bs2 (fs v) (sn v) A (tvis v r) p (tbs v A M X r i) k) := rfl
          rw [s1, es]
          obtain ⟨T, hT⟩ : ∃ T, T = bs2 (fs v) (sn v) A (tvis v r) p (tbs v A M X r i) k := ⟨_, rfl⟩
          have hc2 := I2.c
          rw [← hT] at Q R G I2 hpm hpq hc2 ⊢
          replace Q : TQ 12 T ν := Q
          replace R : TC0 v T.1 T.2.2.2 ν := R
          show (∃ t, b_X5_spread_69 (nI A) (nI r) (nI i) (nI p) (nI T.2.2.1) (nI k) ν = _ ∧ _) ∨ ∃ q, b_X5_spread_69 _ _ _ _ _ _ ν = _ ∧ _
          unfold b_X5_spread_69
          rw [D.N]
          by_cases c2 : k < nN v
          · left
            rw [if_neg (nI_ge c2 (by omega)), c_acr D c2 hA (by omega), Option.bind_some, nI_1]
            have ho := brO_lt (p := p) (C.1.g k c2)
            have ho2 : oO v k p < nP v := ho
            unfold bs1
            by_cases t1 : brT (fs v) (sn v) A k p
            · rw [show (if brT (fs v) (sn v) A k p then nI (brO (fs v) (sn v) k p) else -1) = nI (oO v k p) from if_pos t1, if_neg (m1_ne (by omega))]
              by_cases t2 : T.1 (brO (fs v) (sn v) k p) = false
              · have room := I2.room ho t2
                have tt : brT (fs v) (sn v) A k p ∧ T.1 (brO (fs v) (sn v) k p) = false := ⟨t1, t2⟩
                simp (disch := omega) only [gck, nI_clamp, nI_1]
                have hg8 : gi ν 8 (oO v k p) = -1 := (R.1 _ ho).trans (if_neg (by rw [show T.1 (oO v k p) = false from t2]; decide))
                have hg11 : gi ν 11 p = nI (T.2.2.2.2.2.2.1 p) := (R.2.1 p hq.1 hpm).2.2
                rw [if_pos hg8, if_neg (show ¬ (16 : Int32) ≤ nI T.2.2.1 from ge16 (by omega)), if_pos tt, gi_sik (by decide), gi_sik (by decide), gi_sik (by decide), gi_sik (by decide), hg11, nI_1, show gi ν 7 5 = T.2.2.2.2.2.2.2 from R.2.2]
                exact ⟨_, rfl, ⟨rfl, rfl, (((((F.si rfl).si rfl).si rfl).si rfl).si rfl).si rfl, (gi_sik (by decide)).trans ((gi_sik (by decide)).trans ((gi_sik (by decide)).trans ((gi_sik (by decide)).trans ((gi_sik (by decide)).trans ((gi_sij (by decide)).trans E))))), TQ_si (fun j hj => (gi_sik (by decide)).trans ((gi_sik (by decide)).trans ((gi_sik (by decide)).trans ((gi_sik (by decide)).trans ((gi_sik (by decide)).trans (Q j hj)))))), TC0_vis t2 R, TG_step C.1 H.1 I2 G c2 hpq hpm t1 t2⟩, c2⟩
              · have hg8 : ¬ gi ν 8 (oO v k p) = -1 := by
                  have tm : T.1 (oO v k p) = true := by
                    cases q : T.1 (oO v k p) with
                    | true => rfl
                    | false => exact absurd q t2
                  rw [R.1 (oO v k p) ho2, if_pos tm]
                  have := (G.1 _ tm).2.1
                  exact m1_ne (by omega)
                simp (disch := omega) only [gck, nI_clamp, nI_1]
                rw [if_neg hg8, if_neg (show ¬ (brT (fs v) (sn v) A k p ∧ T.1 (brO (fs v) (sn v) k p) = false) from fun w => t2 w.2)]
                exact ⟨_, rfl, ⟨rfl, rfl, F, E, Q, R, G⟩, c2⟩
            · rw [show (if brT (fs v) (sn v) A k p then nI (brO (fs v) (sn v) k p) else -1) = -1 from if_neg t1, if_pos rfl, if_neg (show ¬ (brT (fs v) (sn v) A k p ∧ T.1 (brO (fs v) (sn v) k p) = false) from fun w => t1 w.1)]
              exact ⟨_, rfl, ⟨rfl, rfl, F, E, Q, R, G⟩, c2⟩
          · right
            have e : k = nN v := by omega
            rw [if_pos (nI_le (by omega) (by omega)), ← e, ← hT]
            exact ⟨_, rfl, rfl, F, E, Q, R⟩
        obtain ⟨⟨x, ν2⟩, h3, e3, F3, E3, Q3, R3⟩ := G
        have e3 : x = nI (tbs v A M X r (i + 1)).2.2.1 := e3
        subst e3
        rw [show (0 : Int32) = nI 0 from rfl, h3, Option.bind_some, nI_1]
        exact ⟨_, rfl, ⟨by omega, rfl, rfl, F3, E3, Q3, R3⟩, c⟩
    · right
      exact ⟨_, if_pos (nI_le (by omega) (by omega)), F, E, stop (by omega)⟩) (by unfold gFuel; omega) (s0 := (nI 1, nI 0, si (si (si (si (si μ 8 r (nI r)) 9 r (-1)) 10 r (nI r)) 11 r 0) 12 0 (nI r))) (by
      refine ⟨by omega, rfl, rfl, (((((Fr.rf μ).si rfl).si rfl).si rfl).si rfl).si rfl, ?_, fun j hj => ?_, fun q hq => ?_, fun q hq hm => ?_, ?_⟩
      · show gi (si (si (si (si (si μ 8 r (nI r)) 9 r (-1)) 10 r (nI r)) 11 r 0) 12 0 (nI r)) 7 6 = _
        rw [gi_sik (by decide), gi_sik (by decide), gi_sik (by decide), gi_sik (by decide), gi_sik (by decide)]
      · have : j = 0 := by have : j < 1 := hj; omega
        subst this
        exact gi_sii
      · show gi (si (si (si (si (si μ 8 r (nI r)) 9 r (-1)) 10 r (nI r)) 11 r 0) 12 0 (nI r)) 8 q = if uN M r true q = true then nI (uN X.1 r r q) else -1
        rw [gi_sik (by decide), gi_sik (by decide), gi_sik (by decide), gi_sik (by decide)]
        by_cases e : q = r
        · rw [e, uN_s, uN_s, if_pos rfl, gi_sii]
        · rw [gi_sij e, uN_n e, uN_n e]; exact R0.1 q hq
      · show gi (si (si (si (si (si μ 8 r (nI r)) 9 r (-1)) 10 r (nI r)) 11 r 0) 12 0 (nI r)) 9 q = uN X.2.1 r (-1) q ∧ gi (si (si (si (si (si μ 8 r (nI r)) 9 r (-1)) 10 r (nI r)) 11 r 0) 12 0 (nI r)) 10 q = nI (uN X.2.2.1 r r q) ∧ gi (si (si (si (si (si μ 8 r (nI r)) 9 r (-1)) 10 r (nI r)) 11 r 0) 12 0 (nI r)) 11 q = nI (uN X.2.2.2.1 r 0 q)
        by_cases e : q = r
        · rw [e, uN_s, uN_s, uN_s]
          exact ⟨(gi_sik (by decide)).trans ((gi_sik (by decide)).trans ((gi_sik (by decide)).trans gi_sii)), (gi_sik (by decide)).trans ((gi_sik (by decide)).trans gi_sii), (gi_sik (by decide)).trans gi_sii⟩
        · have hm2 : uN M r true q = true := hm
          rw [uN_n e] at hm2
          have K := R0.2.1 q hq hm2
          rw [uN_n e, uN_n e, uN_n e]
          refine ⟨?_, ?_, ?_⟩
          · rw [gi_sik (by decide), gi_sik (by decide), gi_sik (by decide), gi_sij e, gi_sik (by decide)]; exact K.1
          · rw [gi_sik (by decide), gi_sik (by decide), gi_sij e, gi_sik (by decide), gi_sik (by decide)]; exact K.2.1
          · rw [gi_sik (by decide), gi_sij e, gi_sik (by decide), gi_sik (by decide), gi_sik (by decide)]; exact K.2.2
      · show gi (si (si (si (si (si μ 8 r (nI r)) 9 r (-1)) 10 r (nI r)) 11 r 0) 12 0 (nI r)) 7 5 = X.2.2.2.2
        rw [gi_sik (by decide), gi_sik (by decide), gi_sik (by decide), gi_sik (by decide), gi_sik (by decide)]
        exact R0.2.2)
  refine ⟨ν, ?_, F2, E2, R2⟩
  unfold f_X5_spread
  simp (disch := omega) only [gck, nI_clamp]
  rw [gckb (by decide), show (0 : Int32).toNatClampNeg = 0 by decide, show gloop (fun t => b_X5_spread_41 (nI A) (nI r) t.1 t.2.1 t.2.2) gFuel ((1 : Int32), (0 : Int32), si (si (si (si (si μ 8 r (nI r)) 9 r (-1)) 10 r (nI r)) 11 r 0) 12 0 (nI r)) = _ from h2]
  rfl
theorem c_grow (C : CO v μ) (hA : A < 2 ^ 31) : ∃ ν, f_X5_grow (nI A) μ = some ν ∧ Fr μ ν ∧ gi ν 7 6 = nI (tgr v A (nP v)).2.2 ∧ TC0 v (tgr v A (nP v)).1 (tgr v A (nP v)).2.1 ν := by
  have hb := C.1.b
  obtain ⟨ν1, h1, F1, E1, B1, Z1⟩ := gloop_rel (body := fun t => b_X5_grow_12 (nI A) t.1 t.2) (fun i t => i ≤ nP v ∧ t.1 = nI i ∧ Fr μ t.2 ∧ gi t.2 7 6 = 0 ∧ gi t.2 7 5 = 0 ∧ ∀ q, q < i → gi t.2 8 q = -1) (fun r => Fr μ r ∧ gi r 7 6 = 0 ∧ gi r 7 5 = 0 ∧ ∀ q, q < nP v → gi r 8 q = -1) (nP v) (fun i t hi hR => by
    obtain ⟨x, ν⟩ := t
    obtain ⟨-, e1, F, E, B, Z⟩ := hR
    have e1 : x = nI i := e1
    subst e1
    replace F : Fr μ ν := F
    have D := C.fr F
    show (∃ t, b_X5_grow_12 (nI A) (nI i) ν = _ ∧ _) ∨ ∃ q, b_X5_grow_12 _ _ ν = _ ∧ _
    unfold b_X5_grow_12
    rw [D.P]
    by_cases c : i < nP v
    · left
      rw [if_neg (nI_ge c (by omega))]
      simp (disch := omega) only [gck, nI_clamp, nI_1]
      refine ⟨_, rfl, ⟨by omega, rfl, F.si rfl, (gi_sik (by decide)).trans E, (gi_sik (by decide)).trans B, fun q hq => ?_⟩, c⟩
      by_cases e : q = i
      · rw [e]; exact gi_sii
      · exact (gi_sij e).trans (Z q (by omega))
    · right
      have e : i = nP v := by omega
      subst e
      exact ⟨_, if_pos (nI_le (Nat.le_refl _) (by omega)), F, E, B, Z⟩) (by unfold gFuel; omega) (s0 := (nI 0, si (si μ 7 5 0) 7 6 0)) ⟨by omega, rfl, ((Fr.rf μ).si rfl).si rfl, gi_sii, (gi_sij (by decide)).trans gi_sii, fun q hq => absurd hq (Nat.not_lt_zero _)⟩
  obtain ⟨ν, h2, F2, E2, R2⟩ := gloop_rel (body := fun t => b_X5_grow_35 (nI A) t.1 t.2) (fun i t => i ≤ nP v ∧ t.1 = nI i ∧ Fr μ t.2 ∧ gi t.2 7 6 = nI (tgr v A i).2.2 ∧ TC0 v (tgr v A i).1 (tgr v A i).2.1 t.2) (fun r => Fr μ r ∧ gi r 7 6 = nI (tgr v A (nP v)).2.2 ∧ TC0 v (tgr v A (nP v)).1 (tgr v A (nP v)).2.1 r) (nP v) (fun i t hi hR => by
    obtain ⟨x, ν⟩ := t
    obtain ⟨-, e1, F, E, R⟩ := hR
    have e1 : x = nI i := e1
    subst e1
    replace F : Fr μ ν := F
    replace E : gi ν 7 6 = nI (tgr v A i).2.2 := E
    replace R : TC0 v (tgr v A i).1 (tgr v A i).2.1 ν := R
    have D := C.fr F
    have H := tgr_A (A := A) C.1 i hi
    show (∃ t, b_X5_grow_35 (nI A) (nI i) ν = _ ∧ _) ∨ ∃ q, b_X5_grow_35 _ _ ν = _ ∧ _
    unfold b_X5_grow_35
    rw [D.P]
    by_cases c : i < nP v
    · left
      rw [if_neg (nI_ge c (by omega)), gck (by omega) (by decide), nI_clamp (by omega), nI_1, tgr_s]
      by_cases d : (tgr v A i).1 i = true
      · rw [if_pos d, if_neg (show ¬ gi ν 8 i = -1 from by
          rw [R.1 i c, if_pos d]
          have := (H.2.1 i d).2.1
          exact m1_ne (by omega))]
        exact ⟨_, rfl, ⟨by omega, rfl, F, E, R⟩, c⟩
      · have dM : (tgr v A i).1 i = false := Bool.eq_false_iff.mpr d
        rw [if_neg d, if_pos (show gi ν 8 i = -1 from (R.1 i c).trans (if_neg d))]
        obtain ⟨ν2, g1, g2, g3, g4⟩ := c_spread (μ := si ν 7 6 (gi ν 7 6 + 1)) (D.fr ((Fr.rf ν).si rfl)) hA c dM H ⟨fun q hq => (gi_sik (by decide)).trans (R.1 q hq), fun q hq hm => ⟨(gi_sik (by decide)).trans (R.2.1 q hq hm).1, (gi_sik (by decide)).trans (R.2.1 q hq hm).2.1, (gi_sik (by decide)).trans (R.2.1 q hq hm).2.2⟩, (gi_sij (by decide)).trans R.2.2⟩
        rw [g1, Option.bind_some]
        refine ⟨_, rfl, ⟨by omega, rfl, (F.si rfl).tr g2, ?_, g4⟩, c⟩
        rw [g3, gi_sii, E, nI_1]
    · right
      have e : i = nP v := by omega
      subst e
      exact ⟨_, if_pos (nI_le (Nat.le_refl _) (by omega)), F, E, R⟩) (by unfold gFuel; omega) (s0 := (nI 0, ν1)) ⟨by omega, rfl, F1, E1, fun q hq => (Z1 q hq).trans (if_neg (by show ¬ (false = true); decide)).symm, fun q hq hm => absurd (show false = true from hm) (by decide), B1⟩
  refine ⟨ν, ?_, F2, E2, R2⟩
  unfold f_X5_grow
  rw [show gloop (fun t => b_X5_grow_12 (nI A) t.1 t.2) gFuel ((0 : Int32), si (si μ 7 5 0) 7 6 0) = _ from h1, Option.bind_some, show gloop (fun t => b_X5_grow_35 (nI A) t.1 t.2) gFuel ((0 : Int32), ν1) = _ from h2]
  rfl
end GR

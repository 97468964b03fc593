section RD
variable {v : Nat → Nat → Int32}
/-! rounds of adjustment -/
def sst (v : Nat → Nat → Int32) (S : Bool × (Nat → Int64)) (p : Nat) : Bool × (Nat → Int64) := if ¬ S.2 p = noH ∧ v 5 p = -1 then (S.1 || !decide (mnv v S.2 p = S.2 p), uN S.2 p (mnv v S.2 p)) else S
def srd (v : Nat → Nat → Int32) (A : Nat → Int64) : Nat → Bool × (Nat → Int64)
  | 0 => (false, A)
  | p + 1 => sst v (srd v A p) p
def rrn (v : Nat → Nat → Int32) : Nat → Nat → Bool → (Nat → Int64) → Nat × (Nat → Int64)
  | 0, n, _, A => (n, A)
  | f + 1, n, c, A => if c = true then rrn v f (n + 1) (srd v A (nP v)).1 (srd v A (nP v)).2 else (n, A)
/-- heights where points are reached, in bounds -/
def AI (v : Nat → Nat → Int32) (A : Nat → Int64) (B : Int) : Prop := ∀ p, p < nP v → (A p = noH ↔ ¬ ∃ n, rch v n p) ∧ (A p = noH ∨ (-B ≤ (A p).toInt ∧ (A p).toInt ≤ B))
theorem rch_t {p : Nat} : ∀ n, rch v n p → v 5 p = -1 → ∃ k, k < nN v ∧ tT v k p
  | 0, h, e => absurd e h.2
  | n + 1, h, e => by
    rcases h with h | ⟨k, hk, hA, h⟩
    · exact rch_t n h e
    · rcases h with ⟨q, _⟩ | ⟨q, _⟩
      · exact ⟨k, hk, hA, Or.inl q⟩
      · exact ⟨k, hk, hA, Or.inr q⟩
theorem AI.nb (C : CI v) {A : Nat → Int64} {B : Int} (H : AI v A B) {p : Nat} (hp : p < nP v) (h : ¬ A p = noH) : ∀ k, k < nN v → tT v k p → -B ≤ (A (oO v k p)).toInt ∧ (A (oO v k p)).toInt ≤ B := by
  intro k hk ht
  have hr : ∃ n, rch v n p := Classical.not_not.mp (fun w => h ((H p hp).1.mpr w))
  have ho := brO_lt (p := p) (C.g k hk)
  have hr2 : ∃ n, rch v n (oO v k p) := by
    rcases ht.2 with e | e
    · rw [← e] at hr ⊢
      rw [show oO v k (fs v k) = sn v k from brO_f]
      exact (rch_cl k hk ht.1).mp hr
    · rw [← e] at hr ⊢
      rw [show oO v k (sn v k) = fs v k from brO_s]
      exact (rch_cl k hk ht.1).mpr hr
  exact (H _ ho).2.resolve_left (fun w => (H _ ho).1.mp w hr2)
theorem AI.up (C : CI v) {A : Nat → Int64} {B : Int} (hB9 : 0 ≤ B ∧ B ≤ 200000000000) (H : AI v A B) {p : Nat} (hp : p < nP v) (h : ¬ A p = noH ∧ v 5 p = -1) : (∃ j, j < nN v ∧ tT v j p) ∧ AI v (uN A p (mnv v A p)) (B + 32800000) := by
  have hr : ∃ n, rch v n p := Classical.not_not.mp (fun w => h.1 ((H p hp).1.mpr w))
  obtain ⟨n, hn⟩ := hr
  have ht := rch_t n hn h.2
  have m := mnv_b C hB9 (H.nb C hp h.1) ht
  refine ⟨ht, fun q hq => ?_⟩
  by_cases e : q = p
  · subst e
    rw [uN_s]
    refine ⟨⟨fun w => absurd w (noH_ne (by omega)), fun w => absurd ⟨n, hn⟩ w⟩, Or.inr ⟨by omega, by omega⟩⟩
  · rw [uN_n e]
    have := H q hq
    exact ⟨this.1, this.2.imp id (fun w => ⟨by omega, by omega⟩)⟩
theorem AI.mo {A : Nat → Int64} {B D : Int} (h : B ≤ D) (H : AI v A B) : AI v A D := fun p hp => ⟨(H p hp).1, (H p hp).2.imp id (fun w => ⟨by omega, by omega⟩)⟩
theorem srd_I (C : CI v) {A : Nat → Int64} {B : Int} (hB9 : 0 ≤ B ∧ B ≤ 150000000000) (H : AI v A B) : ∀ p, p ≤ nP v → AI v (srd v A p).2 (B + 32800000 * (p : Int))
  | 0, _ => H.mo (by omega)
  | p + 1, hp => by
    have I := srd_I C hB9 H p (by omega)
    have hb := C.b
    show AI v (sst v (srd v A p) p).2 _
    unfold sst
    by_cases c : ¬ (srd v A p).2 p = noH ∧ v 5 p = -1
    · rw [if_pos c]
      exact (I.up C ⟨by omega, by omega⟩ (by omega) c).2.mo (by omega)
    · rw [if_neg c]; exact I.mo (by omega)
/-! the lines of each point, one after another -/
def tc (v : Nat → Nat → Int32) (p : Nat) : Nat → Nat
  | 0 => 0
  | k + 1 => if tT v k p then tc v p k + 1 else tc v p k
def gs (v : Nat → Nat → Int32) : Nat → Nat
  | 0 => 0
  | p + 1 => gs v p + tc v p (nN v)
def dg (v : Nat → Nat → Int32) (P : Nat) : Nat → Nat
  | 0 => 0
  | k + 1 => dg v P k + (if (nA v).testBit k = true then (if fs v k < P then 1 else 0) + (if sn v k < P then 1 else 0) else 0)
theorem dg_le (P : Nat) : ∀ k, dg v P k ≤ 2 * k
  | 0 => Nat.le_refl _
  | k + 1 => by
    have := dg_le P k
    unfold dg
    split
    · split <;> split <;> omega
    · omega
theorem dg_0 : ∀ k, dg v 0 k = 0
  | 0 => rfl
  | k + 1 => by
    unfold dg
    rw [dg_0 k, if_neg (Nat.not_lt_zero _), if_neg (Nat.not_lt_zero _)]
    split <;> rfl
theorem dg_s (C : CI v) (P : Nat) : ∀ k, k ≤ nN v → dg v (P + 1) k = dg v P k + tc v P k
  | 0, _ => rfl
  | k + 1, hk => by
    have ih := dg_s C P k (by omega)
    have hne := (C.line (k := k) (by omega)).2.2.2.2.1
    show dg v (P + 1) k + _ = (dg v P k + _) + (if tT v k P then tc v P k + 1 else tc v P k)
    rw [ih]
    by_cases a : (nA v).testBit k = true
    · rw [if_pos a, if_pos a]
      by_cases e1 : fs v k = P
      · rw [if_pos (show tT v k P from ⟨a, Or.inl e1⟩), if_pos (by omega), if_neg (show ¬ fs v k < P by omega)]
        by_cases e2 : sn v k < P
        · rw [if_pos (by omega), if_pos e2]; omega
        · rw [if_neg (by omega), if_neg e2]; omega
      · by_cases e2 : sn v k = P
        · rw [if_pos (show tT v k P from ⟨a, Or.inr e2⟩), if_pos (show sn v k < P + 1 by omega), if_neg (show ¬ sn v k < P by omega)]
          by_cases e3 : fs v k < P
          · rw [if_pos (by omega), if_pos e3]; omega
          · rw [if_neg (by omega), if_neg e3]; omega
        · rw [if_neg (show ¬ tT v k P from fun w => w.2.elim e1 e2)]
          by_cases e3 : fs v k < P <;> by_cases e4 : sn v k < P
          · rw [if_pos (by omega), if_pos (by omega), if_pos e3, if_pos e4]; omega
          · rw [if_pos (by omega), if_neg (by omega), if_pos e3, if_neg e4]; omega
          · rw [if_neg (by omega), if_pos (by omega), if_neg e3, if_pos e4]; omega
          · rw [if_neg (by omega), if_neg (by omega), if_neg e3, if_neg e4]; omega
    · rw [if_neg a, if_neg a, if_neg (show ¬ tT v k P from fun w => a w.1)]; omega
theorem gs_dg (C : CI v) : ∀ p, gs v p = dg v p (nN v)
  | 0 => (dg_0 _).symm
  | p + 1 => by
    show gs v p + _ = _
    rw [gs_dg C p, dg_s C p _ (Nat.le_refl _)]
theorem gs_le (C : CI v) (p : Nat) : gs v p ≤ 40 := by
  have h := dg_le (v := v) p (nN v)
  have hb := C.b
  rw [gs_dg C]; omega
theorem tc_mo (p : Nat) {j : Nat} : ∀ k, j ≤ k → tc v p j ≤ tc v p k
  | 0, h => by rw [show j = 0 by omega]; exact Nat.le_refl _
  | k + 1, h => by
    by_cases e : j = k + 1
    · rw [e]; exact Nat.le_refl _
    · have := tc_mo p k (show j ≤ k by omega)
      show _ ≤ if tT v k p then tc v p k + 1 else tc v p k
      split <;> omega
theorem tc_in {p k N : Nat} (hk : k < N) (h : tT v k p) : tc v p k < tc v p N := by
  have := tc_mo (v := v) p (j := k + 1) N hk
  rw [show tc v p (k + 1) = tc v p k + 1 from if_pos h] at this
  omega
theorem tc_same {A : Nat → Int64} {p K : Nat} : ∀ N, K ≤ N → tc v p N = tc v p K → wsm v A p N = wsm v A p K
  | 0, h, _ => by rw [show K = 0 by omega]
  | N + 1, h, e => by
    by_cases c : K = N + 1
    · rw [c]
    · have m := tc_mo (v := v) p (j := K) N (by omega)
      by_cases t : tT v N p
      · rw [show tc v p (N + 1) = tc v p N + 1 from if_pos t] at e; omega
      · rw [show tc v p (N + 1) = tc v p N from if_neg t] at e
        rw [show wsm v A p (N + 1) = wsm v A p N from if_neg t]
        exact tc_same N (by omega) e
theorem tc_next {A : Nat → Int64} {p K : Nat} : ∀ N, K ≤ N → tc v p K < tc v p N → ∃ k, K ≤ k ∧ k < N ∧ tT v k p ∧ tc v p k = tc v p K ∧ wsm v A p k = wsm v A p K
  | 0, h, e => by rw [show K = 0 by omega] at e; omega
  | N + 1, h, e => by
    by_cases c : K = N + 1
    · rw [c] at e; omega
    · by_cases d : tc v p K < tc v p N
      · obtain ⟨k, a, b, r⟩ := tc_next N (by omega) d
        exact ⟨k, a, by omega, r⟩
      · have m := tc_mo (v := v) p (j := K) N (by omega)
        by_cases t : tT v N p
        · exact ⟨N, by omega, by omega, t, by omega, tc_same N (by omega) (by omega)⟩
        · rw [show tc v p (N + 1) = tc v p N from if_neg t] at e; omega
theorem gs_mo {p : Nat} : ∀ q, p < q → gs v p + tc v p (nN v) ≤ gs v q
  | 0, h => absurd h (by omega)
  | q + 1, h => by
    by_cases e : p = q
    · rw [e]; exact Nat.le_refl _
    · have := gs_mo q (show p < q by omega)
      show _ ≤ gs v q + tc v q (nN v)
      omega
/-- what the class's rows hold of the lines up to k at point p -/
def GK (v : Nat → Nat → Int32) (μ : gM) (p k : Nat) : Prop := ∀ q j, j < nN v → tT v j q → (q < p ∨ (q = p ∧ j < k)) → gi μ 25 (gs v q + tc v q j) = nI (oO v j q) ∧ gi μ 26 (gs v q + tc v q j) = rfr v (oO v j q) j ∧ gi μ 27 (gs v q + tc v q j) = nI (1000000 / ln v j)
def GS (v : Nat → Nat → Int32) (μ : gM) (p : Nat) : Prop := ∀ q, q < p → gi μ 24 q = nI (gs v q)
end RD
section CA
variable {v : Nat → Nat → Int32} {μ : gM}
theorem c_gather (C : CO v μ) : ∃ ν, f_X0_gatherLines μ = some ν ∧ Fr μ ν ∧ ν.2 = μ.2 ∧ GS v ν (nP v + 1) ∧ GK v ν (nP v) 0 := by
  have hb := C.1.b
  obtain ⟨⟨x, ν1⟩, h1, e1, F1, L1, S1, K1⟩ := gloop_rel (body := fun t => b_X0_gatherLines_4 t.1 t.2.1 t.2.2) (fun p t => p ≤ nP v ∧ t.1 = nI (gs v p) ∧ t.2.1 = nI p ∧ Fr μ t.2.2 ∧ t.2.2.2 = μ.2 ∧ GS v t.2.2 p ∧ GK v t.2.2 p 0) (fun r => r.1 = nI (gs v (nP v)) ∧ Fr μ r.2 ∧ r.2.2 = μ.2 ∧ GS v r.2 (nP v) ∧ GK v r.2 (nP v) 0) (nP v) (fun p t hp hR => by
    obtain ⟨x, y, ν⟩ := t
    obtain ⟨-, e1, e2, F, L, S, K⟩ := hR
    have e1 : x = nI (gs v p) := e1
    have e2 : y = nI p := e2
    subst e1 e2
    replace F : Fr μ ν := F
    replace L : ν.2 = μ.2 := L
    replace S : GS v ν p := S
    replace K : GK v ν p 0 := K
    have D := C.fr F
    have g40 := gs_le C.1 p
    show (∃ t, b_X0_gatherLines_4 (nI (gs v p)) (nI p) ν = _ ∧ _) ∨ ∃ r, b_X0_gatherLines_4 _ _ ν = _ ∧ _
    unfold b_X0_gatherLines_4
    rw [D.P]
    by_cases c : p < nP v
    · left
      rw [if_neg (nI_ge c (by omega))]
      simp (disch := omega) only [gck, nI_clamp, nI_1]
      have G : ∃ r, gloop (fun t => b_X0_gatherLines_22 (nI p) t.1 t.2.1 t.2.2) gFuel (nI (gs v p + tc v p 0), nI 0, si ν 24 p (nI (gs v p))) = some r ∧ (r.1 = nI (gs v (p + 1)) ∧ Fr μ r.2 ∧ r.2.2 = μ.2 ∧ GS v r.2 (p + 1) ∧ GK v r.2 (p + 1) 0) := by
        refine gloop_rel (σ := Int32 × Int32 × gM) (fun k t => t.1 = nI (gs v p + tc v p k) ∧ t.2.1 = nI k ∧ Fr μ t.2.2 ∧ t.2.2.2 = μ.2 ∧ GS v t.2.2 (p + 1) ∧ GK v t.2.2 p k) _ (nN v) (fun k t hk hR => ?_) (by unfold gFuel; omega) ⟨rfl, rfl, F.si rfl, L, fun q hq => ?_, fun q j hj ht hq => ?_⟩
        · obtain ⟨x, y, ν⟩ := t
          obtain ⟨e1, e2, F, L, S, K⟩ := hR
          have e1 : x = nI (gs v p + tc v p k) := e1
          have e2 : y = nI k := e2
          subst e1 e2
          replace F : Fr μ ν := F
          replace L : ν.2 = μ.2 := L
          replace S : GS v ν (p + 1) := S
          replace K : GK v ν p k := K
          have D := C.fr F
          show (∃ t, b_X0_gatherLines_22 (nI p) (nI (gs v p + tc v p k)) (nI k) ν = _ ∧ _) ∨ ∃ r, b_X0_gatherLines_22 _ _ _ ν = _ ∧ _
          unfold b_X0_gatherLines_22
          rw [D.N]
          by_cases c2 : k < nN v
          · left
            have ho := brO_lt (p := p) (C.1.g k c2)
            have ho2 : oO v k p < nP v := ho
            rw [if_neg (nI_ge c2 (by omega)), D.A, c_acr D c2 C.1.A31 (by omega), Option.bind_some, nI_1]
            by_cases t1 : tT v k p
            · have hi := tc_in (v := v) c2 t1
              have g41 := gs_le C.1 (p + 1)
              have g42 : gs v (p + 1) = gs v p + tc v p (nN v) := rfl
              rw [show (if brT (fs v) (sn v) (nA v) k p then nI (brO (fs v) (sn v) k p) else -1) = nI (oO v k p) from if_pos t1, if_neg (m1_ne (by omega))]
              simp (disch := omega) only [gck, nI_clamp, nI_1]
              rw [c_riseFrom (D.fr ((Fr.rf ν).si rfl)) c2 (by omega), Option.bind_some, c_lineWeight ((D.fr ((Fr.rf ν).si rfl)).fr ((Fr.rf _).si rfl)) c2, Option.bind_some]
              refine ⟨_, rfl, ⟨?_, rfl, ((F.si rfl).si rfl).si rfl, L, fun q hq => ?_, fun q j hj ht hq => ?_⟩, c2⟩
              · show nI (gs v p + tc v p k + 1) = nI (gs v p + tc v p (k + 1))
                rw [show tc v p (k + 1) = tc v p k + 1 from if_pos t1]; rfl
              · exact S q hq
              · by_cases e : q = p ∧ j = k
                · obtain ⟨ee1, ee2⟩ := e
                  subst ee1 ee2
                  exact ⟨gi_sii, gi_sii, gi_sii⟩
                · have h1 := K q j hj ht (by omega)
                  have hlt : gs v q + tc v q j ≠ gs v p + tc v p k := by
                    rcases hq with hq | hq
                    · have a := gs_mo (v := v) p hq
                      have b := tc_in (v := v) hj ht
                      omega
                    · obtain ⟨hq1, hq2⟩ := hq
                      subst hq1
                      have hjk : j < k := by
                        have : j ≠ k := fun w => e ⟨rfl, w⟩
                        omega
                      have b := tc_in (v := v) hjk ht
                      omega
                  refine ⟨?_, ?_, ?_⟩
                  · rw [gi_sik (by decide), gi_sik (by decide), gi_sij hlt]; exact h1.1
                  · rw [gi_sik (by decide), gi_sij hlt, gi_sik (by decide)]; exact h1.2.1
                  · rw [gi_sij hlt, gi_sik (by decide), gi_sik (by decide)]; exact h1.2.2
            · rw [show (if brT (fs v) (sn v) (nA v) k p then nI (brO (fs v) (sn v) k p) else -1) = -1 from if_neg t1, if_pos rfl]
              refine ⟨_, rfl, ⟨?_, rfl, F, L, S, fun q j hj ht hq => K q j hj ht ?_⟩, c2⟩
              · show nI (gs v p + tc v p k) = nI (gs v p + tc v p (k + 1))
                rw [show tc v p (k + 1) = tc v p k from if_neg t1]
              · rcases hq with hq | hq
                · exact Or.inl hq
                · refine Or.inr ⟨hq.1, ?_⟩
                  have : j ≠ k := fun w => t1 (by rw [← hq.1, ← w]; exact ht)
                  omega
          · right
            have e : k = nN v := by omega
            rw [if_pos (nI_le (by omega) (by omega)), e]
            refine ⟨_, rfl, rfl, F, L, S, fun q j hj ht hq => K q j hj ht ?_⟩
            omega
        · by_cases e : q = p
          · rw [e]; exact gi_sii
          · exact (gi_sij e).trans (S q (by omega))
        · have h := K q j hj ht (by omega)
          rw [gi_sik (by decide), gi_sik (by decide), gi_sik (by decide)]
          exact h
      obtain ⟨⟨x, ν2⟩, h3, e3, F3, L3, S3, K3⟩ := G
      have e3 : x = nI (gs v (p + 1)) := e3
      subst e3
      rw [show tc v p 0 = 0 from rfl, Nat.add_zero] at h3
      rw [show (0 : Int32) = nI 0 from rfl, h3, Option.bind_some]
      exact ⟨_, rfl, ⟨by omega, rfl, rfl, F3, L3, S3, K3⟩, c⟩
    · right
      have e : p = nP v := by omega
      rw [if_pos (nI_le (by omega) (by omega)), ← e]
      exact ⟨_, rfl, rfl, F, L, S, K⟩) (by unfold gFuel; omega) (s0 := (nI (gs v 0), nI 0, μ)) ⟨by omega, rfl, rfl, Fr.rf μ, rfl, fun q hq => absurd hq (Nat.not_lt_zero _), fun q j _ _ hq => absurd hq (by omega)⟩
  have e1 : x = nI (gs v (nP v)) := e1
  subst e1
  replace F1 : Fr μ ν1 := F1
  have D1 := C.fr F1
  unfold f_X0_gatherLines
  rw [show gloop (fun t => b_X0_gatherLines_4 t.1 t.2.1 t.2.2) gFuel ((0 : Int32), (0 : Int32), μ) = _ from h1, Option.bind_some, D1.P]
  simp (disch := omega) only [gck, nI_clamp]
  refine ⟨_, rfl, F1.si rfl, L1, fun q hq => ?_, fun q j hj ht hq => ?_⟩
  · by_cases e : q = nP v
    · rw [e]; exact gi_sii
    · exact (gi_sij e).trans (S1 q (by omega))
  · rw [gi_sik (by decide), gi_sik (by decide), gi_sik (by decide)]
    exact K1 q j hj ht hq
theorem c_wm (C : CO v μ) {A : Nat → Int64} {B : Int} (hS : GS v μ (nP v + 1)) (hK : GK v μ (nP v) 0) (hA : ∀ p, p < nP v → gl μ 22 p = A p) (hB9 : 0 ≤ B ∧ B ≤ 200000000000) (H : AI v A B) {p : Nat} (hp : p < nP v) (h : ¬ A p = noH ∧ v 5 p = -1) : f_X0_weightedMean (nI p) μ = some (mnv v A p) := by
  have hb := C.1.b
  have ht := (H.up C.1 hB9 hp h).1
  have m := mnv_b C.1 hB9 (H.nb C.1 hp h.1) ht
  have g1 : gi μ 24 p = nI (gs v p) := hS p (by omega)
  have g2 : gi μ 24 (p + 1) = nI (gs v p + tc v p (nN v)) := hS (p + 1) (by omega)
  have g3 := gs_le C.1 (p + 1)
  have g4 : gs v (p + 1) = gs v p + tc v p (nN v) := rfl
  obtain ⟨r, h1, h2⟩ := gloop_rel (body := fun t => b_X0_weightedMean_13 (nI p) t.1 t.2.1 t.2.2 μ) (fun i t => i ≤ tc v p (nN v) ∧ ∃ K, K ≤ nN v ∧ tc v p K = i ∧ t = ((wsm v A p K).1, (wsm v A p K).2, nI (gs v p + i))) (fun r => r = wsm v A p (nN v)) (tc v p (nN v)) (fun i t hi hR => by
    obtain ⟨-, K, hK1, hK2, e⟩ := hR
    subst e
    show (∃ t, b_X0_weightedMean_13 (nI p) _ _ (nI (gs v p + i)) μ = _ ∧ _) ∨ ∃ r, b_X0_weightedMean_13 _ _ _ _ μ = _ ∧ _
    unfold b_X0_weightedMean_13
    by_cases c : i < tc v p (nN v)
    · left
      obtain ⟨k, a1, a2, a3, a4, a5⟩ := tc_next (v := v) (A := A) (p := p) (K := K) (nN v) hK1 (by omega)
      obtain ⟨b1, b2, b3⟩ := hK p k a2 a3 (Or.inl hp)
      rw [show gs v p + tc v p k = gs v p + i by omega] at b1 b2 b3
      have ho := brO_lt (p := p) (C.1.g k a2)
      have ho2 : oO v k p < nP v := ho
      simp (disch := omega) only [nI_1, gck, nI_clamp, g2, b1, b2, b3, hA _ ho]
      rw [if_neg (nI_ge (by omega) (by omega))]
      refine ⟨_, rfl, ⟨by omega, k + 1, by omega, ?_, ?_⟩, c⟩
      · rw [show tc v p (k + 1) = tc v p k + 1 from if_pos a3]; omega
      · rw [show wsm v A p (k + 1) = _ from if_pos a3, a5]; rfl
    · right
      simp (disch := omega) only [nI_1, gck, nI_clamp, g2]
      rw [if_pos (nI_le (by omega) (by omega))]
      exact ⟨_, rfl, by rw [tc_same (v := v) (A := A) (nN v) hK1 (by omega)]⟩) (by unfold gFuel; omega) (s0 := ((0 : Int64), (0 : Int64), nI (gs v p + 0))) ⟨by omega, 0, by omega, rfl, rfl⟩
  subst h2
  unfold f_X0_weightedMean
  simp (disch := omega) only [gck, nI_clamp, g1]
  rw [Nat.add_zero] at h1
  rw [h1, Option.bind_some, if_neg (by
    have z : (0 : Int64).toInt = 0 := by decide
    rw [Int64.le_iff_toInt_le, z]; omega), m.2.1, Option.bind_some]
end CA

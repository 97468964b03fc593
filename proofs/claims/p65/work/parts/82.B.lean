/-! the law's distances: between all points at once -/
theorem gloop_relN {σ ρ : Type} {body : σ → Option (σ ⊕ ρ)} (R : Nat → σ → Prop) (Z : ρ → Prop) (n f : Nat) (hs : ∀ i s, i ≤ n → R i s → (∃ t, body s = some (.inl t) ∧ R (i + 1) t ∧ i < n) ∨ ∃ r, body s = some (.inr r) ∧ Z r) (hn : n < f) {s0 : σ} (h0 : R 0 s0) : ∃ r, gloop body f s0 = some r ∧ Z r := by
  have key : ∀ k i s, i + k = n → R i s → ∀ f, k < f → ∃ r, gloop body f s = some r ∧ Z r := by
    intro k
    induction k with
    | zero =>
      intro i s hi hr f hf
      obtain ⟨f, rfl⟩ : ∃ g, f = g + 1 := ⟨f - 1, by omega⟩
      rcases hs i s (by omega) hr with ⟨t, h1, h2, h3⟩ | ⟨r, h1, h2⟩
      · exact absurd h3 (by omega)
      · refine ⟨r, ?_, h2⟩
        show (body s).bind _ = some r
        rw [h1]; rfl
    | succ k ih =>
      intro i s hi hr f hf
      obtain ⟨f, rfl⟩ : ∃ g, f = g + 1 := ⟨f - 1, by omega⟩
      rcases hs i s (by omega) hr with ⟨t, h1, h2, h3⟩ | ⟨r, h1, h2⟩
      · obtain ⟨r, h4, h5⟩ := ih (i + 1) t (by omega) h2 f (by omega)
        refine ⟨r, ?_, h5⟩
        show (body s).bind _ = some r
        rw [h1]; exact h4
      · refine ⟨r, ?_, h2⟩
        show (body s).bind _ = some r
        rw [h1]; rfl
  exact key n 0 s0 (by omega) h0 f hn
abbrev Mx : Type := Nat → Nat → Int32
def dI0 (z : Mx) (a : Nat) : Nat → Mx
  | 0 => z
  | b + 1 => upd2 (dI0 z a b) a b (if a = b then 0 else 1000000)
def dI1 (P : Nat) : Nat → Mx
  | 0 => fun _ _ => 0
  | a + 1 => dI0 (dI1 P a) a P
def dL1 (v : Nat → Nat → Int32) (k : Nat) (z : Mx) : Mx := upd2 (upd2 z (sn v k) (fs v k) (imin (z (fs v k) (sn v k)) (nI (ln v k)))) (fs v k) (sn v k) (imin (z (fs v k) (sn v k)) (nI (ln v k)))
def dL (v : Nat → Nat → Int32) (w : Int32) (z : Mx) : Nat → Mx
  | 0 => z
  | k + 1 => if (nA v).testBit k = true ∧ nI k ≠ w then dL1 v k (dL v w z k) else dL v w z k
def dF0 (m a : Nat) (z : Mx) : Nat → Mx
  | 0 => z
  | b + 1 => upd2 (dF0 m a z b) a b (imin (dF0 m a z b a b) (dF0 m a z b a m + dF0 m a z b m b))
def dF1 (P m : Nat) (z : Mx) : Nat → Mx
  | 0 => z
  | a + 1 => dF0 m a (dF1 P m z a) P
def dF2 (P : Nat) (z : Mx) : Nat → Mx
  | 0 => z
  | m + 1 => dF1 P m (dF2 P z m) P
def dMx (v : Nat → Nat → Int32) (w : Int32) : Mx := dF2 (nP v) (dL v w (dI1 (nP v) (nP v)) (nN v)) (nP v)
section DIS
variable {v : Nat → Nat → Int32} {ν μ : gM}
theorem l_dist (C : CI v) (M : LM v ν) (w : Int32) : f_L_distances w ν μ = some (dMx v w) := by
  have hb := M.b
  unfold f_L_distances
  have h1 : gloop (fun t => b_L_distances_15 w t.1 t.2 ν μ) 9 ((0 : Int32), (fun _ _ => 0)) = some (dI1 (nP v) (nP v)) := by
    refine gloop_run (fun i => (nI i, dI1 (nP v) i)) (nP v) (fun a ha => ?_) ?_ 9 (by omega)
    · show b_L_distances_15 w (nI a) (dI1 (nP v) a) ν μ = _
      unfold b_L_distances_15
      rw [M.P, if_neg (nI_ge ha (by omega))]
      have h2 : gloop (fun t => b_L_distances_26 w (nI a) t.1 t.2 ν μ) 9 ((0 : Int32), dI1 (nP v) a) = some (dI0 (dI1 (nP v) a) a (nP v)) := by
        refine gloop_run (fun i => (nI i, dI0 (dI1 (nP v) a) a i)) (nP v) (fun b hb2 => ?_) ?_ 9 (by omega)
        · show b_L_distances_26 w (nI a) (nI b) (dI0 (dI1 (nP v) a) a b) ν μ = _
          unfold b_L_distances_26
          rw [M.P, if_neg (nI_ge hb2 (by omega)), M.lp]
          simp (disch := omega) only [gck, nI_clamp]
          rw [nI_1]
          by_cases c : a = b
          · rw [if_pos (by rw [c])]
            show some (Sum.inl (nI (b + 1), upd2 (dI0 (dI1 (nP v) a) a b) a b 0)) = some (Sum.inl (nI (b + 1), upd2 (dI0 (dI1 (nP v) a) a b) a b (if a = b then 0 else 1000000)))
            rw [if_pos c]
          · rw [if_neg (fun q => c ((nI_eq (by omega) (by omega)).mp q))]
            show some (Sum.inl (nI (b + 1), upd2 (dI0 (dI1 (nP v) a) a b) a b 1000000)) = some (Sum.inl (nI (b + 1), upd2 (dI0 (dI1 (nP v) a) a b) a b (if a = b then 0 else 1000000)))
            rw [if_neg c]
        · show b_L_distances_26 w (nI a) (nI (nP v)) _ ν μ = _
          unfold b_L_distances_26
          rw [M.P, if_pos (nI_le (Nat.le_refl _) (by omega))]
      rw [show (0 : Int32) = nI 0 from rfl] at h2 ⊢
      rw [h2, Option.bind_some, nI_1]
      rfl
    · show b_L_distances_15 w (nI (nP v)) _ ν μ = _
      unfold b_L_distances_15
      rw [M.P, if_pos (nI_le (Nat.le_refl _) (by omega))]
  have h2 : gloop (fun t => b_L_distances_67 w t.1 t.2 ν μ) 12 ((0 : Int32), dI1 (nP v) (nP v)) = some (dL v w (dI1 (nP v) (nP v)) (nN v)) := by
    refine gloop_run (fun i => (nI i, dL v w (dI1 (nP v) (nP v)) i)) (nN v) (fun k hk => ?_) ?_ 12 (by omega)
    · show b_L_distances_67 w (nI k) (dL v w (dI1 (nP v) (nP v)) k) ν μ = _
      unfold b_L_distances_67
      rw [M.N, if_neg (nI_ge hk (by omega)), M.ll, gck hk (by omega)]
      simp (disch := omega) only [nI_clamp]
      rw [nI_1]
      by_cases c : (nA v).testBit k = true
      · rw [if_neg (fun q => (M.a0 hk).mp q c)]
        by_cases d : nI k = w
        · rw [if_pos d]
          show _ = some (Sum.inl (nI (k + 1), if (nA v).testBit k = true ∧ nI k ≠ w then _ else dL v w (dI1 (nP v) (nP v)) k))
          rw [if_neg (fun q => q.2 d)]
        · have hf := (C.line hk).2.2.1
          have hs := (C.line hk).2.2.2.1
          rw [if_neg d, M.f C hk, M.s C hk, M.lp]
          simp (disch := omega) only [gck, nI_clamp]
          rw [l_length C M hk, Option.bind_some]
          show some (Sum.inl (nI (k + 1), dL1 v k (dL v w (dI1 (nP v) (nP v)) k))) = some (Sum.inl (nI (k + 1), if (nA v).testBit k = true ∧ nI k ≠ w then dL1 v k (dL v w (dI1 (nP v) (nP v)) k) else _))
          rw [if_pos ⟨c, d⟩]
      · rw [if_pos ((M.a0 hk).mpr c)]
        show _ = some (Sum.inl (nI (k + 1), if (nA v).testBit k = true ∧ nI k ≠ w then _ else dL v w (dI1 (nP v) (nP v)) k))
        rw [if_neg (fun q => c q.1)]
    · show b_L_distances_67 w (nI (nN v)) _ ν μ = _
      unfold b_L_distances_67
      rw [M.N, if_pos (nI_le (Nat.le_refl _) (by omega))]
  have h3 : gloop (fun t => b_L_distances_150 t.1 t.2 ν μ) 9 ((0 : Int32), dL v w (dI1 (nP v) (nP v)) (nN v)) = some (dMx v w) := by
    refine gloop_run (fun i => (nI i, dF2 (nP v) (dL v w (dI1 (nP v) (nP v)) (nN v)) i)) (nP v) (fun m hm => ?_) ?_ 9 (by omega)
    · generalize hz : dL v w (dI1 (nP v) (nP v)) (nN v) = z0
      show b_L_distances_150 (nI m) (dF2 (nP v) z0 m) ν μ = some (.inl (nI (m + 1), dF1 (nP v) m (dF2 (nP v) z0 m) (nP v)))
      generalize dF2 (nP v) z0 m = z
      unfold b_L_distances_150
      rw [M.P, if_neg (nI_ge hm (by omega))]
      have h4 : gloop (fun t => b_L_distances_161 (nI m) t.1 t.2 ν μ) 9 ((0 : Int32), z) = some (dF1 (nP v) m z (nP v)) := by
        refine gloop_run (fun i => (nI i, dF1 (nP v) m z i)) (nP v) (fun a ha => ?_) ?_ 9 (by omega)
        · show b_L_distances_161 (nI m) (nI a) (dF1 (nP v) m z a) ν μ = some (.inl (nI (a + 1), dF0 m a (dF1 (nP v) m z a) (nP v)))
          generalize dF1 (nP v) m z a = z
          unfold b_L_distances_161
          rw [M.P, if_neg (nI_ge ha (by omega))]
          have h5 : gloop (fun t => b_L_distances_173 (nI m) (nI a) t.1 t.2 ν μ) 9 ((0 : Int32), z) = some (dF0 m a z (nP v)) := by
            refine gloop_run (fun i => (nI i, dF0 m a z i)) (nP v) (fun b hb2 => ?_) ?_ 9 (by omega)
            · show b_L_distances_173 (nI m) (nI a) (nI b) (dF0 m a z b) ν μ = _
              unfold b_L_distances_173
              rw [M.P, if_neg (nI_ge hb2 (by omega)), M.lp]
              simp (disch := omega) only [gck, nI_clamp]
              rw [nI_1]
              rfl
            · show b_L_distances_173 (nI m) (nI a) (nI (nP v)) _ ν μ = _
              unfold b_L_distances_173
              rw [M.P, if_pos (nI_le (Nat.le_refl _) (by omega))]
          rw [h5, Option.bind_some, nI_1]
        · show b_L_distances_161 (nI m) (nI (nP v)) _ ν μ = _
          unfold b_L_distances_161
          rw [M.P, if_pos (nI_le (Nat.le_refl _) (by omega))]
      rw [h4, Option.bind_some, nI_1]
    · show b_L_distances_150 (nI (nP v)) _ ν μ = _
      unfold b_L_distances_150
      rw [M.P, if_pos (nI_le (Nat.le_refl _) (by omega))]
      rfl
  rw [h1, Option.bind_some, h2, Option.bind_some, h3]
  rfl
end DIS

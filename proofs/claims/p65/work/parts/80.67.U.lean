/-! a setup more; undo -/
def vadd (v : Nat → Nat → Int32) (a c : Nat) (x : Nat → Int32) : Nat → Nat → Int32 := fun j i => if j = 9 ∧ i = a then nI (c + 1) else if j = 10 ∧ 32 * a + 4 * c ≤ i ∧ i < 32 * a + 4 * c + 4 then x (i - (32 * a + 4 * c)) else v j i
section AD
variable {v : Nat → Nat → Int32} {a c : Nat} {x : Nat → Int32}
theorem va_o {j i : Nat} (h9 : j ≠ 9) (h10 : j ≠ 10) : vadd v a c x j i = v j i := by
  unfold vadd
  rw [if_neg (fun w => h9 w.1), if_neg (fun w => h10 w.1)]
theorem va_9 : vadd v a c x 9 a = nI (c + 1) := if_pos ⟨rfl, rfl⟩
theorem va_9n {q : Nat} (h : q ≠ a) : vadd v a c x 9 q = v 9 q := by
  unfold vadd
  rw [if_neg (fun w => h w.2), if_neg (fun w => absurd w.1 (by decide))]
theorem va_in {w : Nat} (h : w < 4) : vadd v a c x 10 (32 * a + 4 * c + w) = x w := by
  unfold vadd
  rw [if_neg (fun w => absurd w.1 (by decide)), if_pos ⟨rfl, by omega, by omega⟩, show 32 * a + 4 * c + w - (32 * a + 4 * c) = w by omega]
theorem va_out {i : Nat} (h : i < 32 * a + 4 * c ∨ 32 * a + 4 * c + 4 ≤ i) : vadd v a c x 10 i = v 10 i := by
  unfold vadd
  rw [if_neg (fun w => absurd w.1 (by decide)), if_neg (fun w => by omega)]
theorem va_ct (hc : c < 8) : ct (vadd v a c x) a = c + 1 := by
  unfold ct
  rw [va_9, nI_clamp (by omega)]
theorem va_ctn {q : Nat} (h : q ≠ a) : ct (vadd v a c x) q = ct v q := by
  unfold ct
  rw [va_9n h]
theorem CI_add (C : CI v) (ha : a < nN v) (hc : ct v a = c) (h8 : c < 8) (hx : ∀ w, w < 4 → gdN w (x w)) : CI (vadd v a c x) := by
  have z : ∀ b, vadd v a c x 0 b = v 0 b := fun b => va_o (by decide) (by decide)
  refine CI_of C (fun i _ => z i) ?_ ?_ (fun l hl => ?_) (fun p hp => ?_) (fun k hk => ?_) (fun t ht => ?_)
  · have e : nA (vadd v a c x) = nA v := congrArg Int32.toNatClampNeg (z 4)
    rw [e, z]; exact C.ac
  · rw [va_o (by decide) (by decide), va_o (by decide) (by decide), va_o (by decide) (by decide)]; exact C.2.2.1
  · rw [va_o (by decide) (by decide)]; exact C.2.2.2.1 l hl
  · rw [va_o (by decide) (by decide)]; exact C.2.2.2.2.1 p hp
  · have H := C.line hk
    have cn := H.cnt
    by_cases e : k = a
    · subst e
      refine LI_gd H z (va_o (by decide) (by decide)) (va_o (by decide) (by decide)) (va_o (by decide) (by decide)) ?_ ?_ (fun s hs w hw => ?_)
      · rw [va_ct h8, va_9]
      · rw [va_ct h8]; omega
      · rw [va_ct h8] at hs
        by_cases e2 : s = c
        · subst e2; rw [va_in hw]; exact hx w hw
        · rw [va_out (by omega)]; exact gdN_LI H (by omega) hw
    · refine LI_gd H z (va_o (by decide) (by decide)) (va_o (by decide) (by decide)) (va_o (by decide) (by decide)) ?_ ?_ (fun s hs w hw => ?_)
      · rw [va_ctn e, va_9n e]; exact cn.1
      · rw [va_ctn e]; omega
      · rw [va_ctn e] at hs
        rw [va_out (by omega)]; exact gdN_LI H hs hw
  · exact TI_cg (congrArg Int32.toNatClampNeg (z 0)) (va_o (by decide) (by decide)) (fun i => va_o (by decide) (by decide)) (C.2.2.2.2.2.2 t ht)
theorem DM_add (C : CI v) (ha : a < nN v) (hc : ct v a = c) (h8 : c < 8) {d d2 : Nat → Int32} (D : DM v d) (e : ∀ q, q < 702 → d2 q = if q = 42 + a then nI (c + 1) else if 62 + (32 * a + 4 * c) ≤ q ∧ q < 62 + (32 * a + 4 * c) + 4 then x (q - (62 + (32 * a + 4 * c))) else d q) : DM (vadd v a c x) d2 := by
  have hb := C.b
  have z : ∀ b, vadd v a c x 0 b = v 0 b := fun b => va_o (by decide) (by decide)
  have L : nL (vadd v a c x) = nL v := congrArg Int32.toNatClampNeg (z 0)
  have P : nP (vadd v a c x) = nP v := congrArg Int32.toNatClampNeg (z 1)
  have N : nN (vadd v a c x) = nN v := congrArg Int32.toNatClampNeg (z 2)
  have A : nA (vadd v a c x) = nA v := congrArg Int32.toNatClampNeg (z 4)
  obtain ⟨q1, q2, q3, q4, q5, q6, q7⟩ := D
  unfold DM
  rw [L, P, N, A]
  refine ⟨fun p hp => ?_, fun p hp => ?_, fun p hp => ?_, fun p hp hp2 => ?_, fun p hp => ?_, fun p hp => ?_, fun k hk s hs w hw => ?_⟩
  · rw [e p (by omega), if_neg (by omega), if_neg (by omega), va_o (by decide) (by decide)]; exact q1 p hp
  · rw [e _ (by omega), if_neg (by omega), if_neg (by omega), va_o (by decide) (by decide)]; exact q2 p hp
  · rw [e _ (by omega), if_neg (by omega), if_neg (by omega), va_o (by decide) (by decide)]; exact q3 p hp
  · rw [e _ (by omega), if_neg (by omega), if_neg (by omega)]; exact q4 p hp hp2
  · rw [e _ (by omega), if_neg (by omega), if_neg (by omega)]; exact q5 p hp
  · rw [e _ (by omega)]
    by_cases g : p = a
    · rw [if_pos (by omega), g, va_9]
    · rw [if_neg (by omega), if_neg (by omega), va_9n g]; exact q6 p hp
  · have hcn := (C.line hk).cnt
    by_cases g : k = a
    · subst g
      rw [va_ct h8] at hs
      by_cases e2 : s = c
      · subst e2
        rw [e _ (by omega), if_neg (by omega), if_pos (by omega), va_in hw, show 62 + (32 * k + 4 * s + w) - (62 + (32 * k + 4 * s)) = w by omega]
      · rw [e _ (by omega), if_neg (by omega), if_neg (by omega), va_out (by omega)]; exact q7 k hk s (by omega) w hw
    · rw [va_ctn g] at hs
      rw [e _ (by omega), if_neg (by omega), if_neg (by omega), va_out (by omega)]; exact q7 k hk s hs w hw
theorem eqN_add (C : CI v) (hc : ct v a = c) (h9 : v 9 a = nI c) (h8 : c < 8) : eqN v (vset (vadd v a c x) 9 a (nI c)) := by
  have o : ∀ j i, j ≠ 9 → j ≠ 10 → v j i = vset (vadd v a c x) 9 a (nI c) j i := fun j i h9 h10 => ((vs_j h9).trans (va_o h9 h10)).symm
  have n9 : ∀ k, v 9 k = vset (vadd v a c x) 9 a (nI c) 9 k := fun k => by
    by_cases e : k = a
    · rw [e, vs_s, h9]
    · rw [vs_i e, va_9n e]
  refine ⟨o 0 0 (by decide) (by decide), o 0 1 (by decide) (by decide), o 0 2 (by decide) (by decide), o 0 3 (by decide) (by decide), o 0 4 (by decide) (by decide), fun i _ => o 1 i (by decide) (by decide), fun l _ => ⟨o 2 l (by decide) (by decide), o 3 l (by decide) (by decide)⟩, fun p _ => ⟨o 4 p (by decide) (by decide), o 5 p (by decide) (by decide)⟩, fun k hk => ⟨o 6 k (by decide) (by decide), o 7 k (by decide) (by decide), o 8 k (by decide) (by decide), n9 k, fun s hs w hw => ?_⟩, fun t _ => ⟨o 11 t (by decide) (by decide), fun i _ => o 12 _ (by decide) (by decide)⟩⟩
  have e : ct (vset (vadd v a c x) 9 a (nI c)) k = ct v k := congrArg Int32.toNatClampNeg (n9 k).symm
  rw [e] at hs
  have hk2 : k < nN v := by
    have : nN (vset (vadd v a c x) 9 a (nI c)) = nN v := congrArg Int32.toNatClampNeg (o 0 2 (by decide) (by decide)).symm
    rw [this] at hk; exact hk
  have hcn := (C.line hk2).cnt
  rw [vs_j (by decide), va_out]
  by_cases g : k = a
  · subst g; omega
  · omega
end AD
def xs4 (x0 x1 x2 x3 : Int32) : Nat → Int32
  | 0 => x0
  | 1 => x1
  | 2 => x2
  | _ => x3
section GB
variable {μ : gM}
theorem vadd_si {v : Nat → Nat → Int32} {a c : Nat} {x0 x1 x2 x3 : Int32} : vset (vset (vset (vset (vset v 10 (32 * a + 4 * c) x0) 10 (32 * a + 4 * c + 1) x1) 10 (32 * a + 4 * c + 2) x2) 10 (32 * a + 4 * c + 3) x3) 9 a (nI (c + 1)) = vadd v a c (xs4 x0 x1 x2 x3) := by
  funext j i
  by_cases c9 : j = 9 ∧ i = a
  · rw [c9.1, c9.2, vs_s, va_9]
  · rw [show vset _ 9 a (nI (c + 1)) j i = _ from if_neg c9]
    unfold vadd
    rw [if_neg c9]
    by_cases g : j = 10 ∧ 32 * a + 4 * c ≤ i ∧ i < 32 * a + 4 * c + 4
    · rw [if_pos g, g.1]
      have h4 : i = 32 * a + 4 * c ∨ i = 32 * a + 4 * c + 1 ∨ i = 32 * a + 4 * c + 2 ∨ i = 32 * a + 4 * c + 3 := by omega
      rcases h4 with h | h | h | h <;> subst h
      · rw [vs_i (by omega), vs_i (by omega), vs_i (by omega), vs_s, Nat.sub_self]; rfl
      · rw [vs_i (by omega), vs_i (by omega), vs_s, show 32 * a + 4 * c + 1 - (32 * a + 4 * c) = 1 by omega]; rfl
      · rw [vs_i (by omega), vs_s, show 32 * a + 4 * c + 2 - (32 * a + 4 * c) = 2 by omega]; rfl
      · rw [vs_s, show 32 * a + 4 * c + 3 - (32 * a + 4 * c) = 3 by omega]; rfl
    · rw [if_neg g]
      unfold vset
      rw [if_neg (by omega), if_neg (by omega), if_neg (by omega), if_neg (by omega)]
end GB

/-! changes: what they leave in order -/
theorem nv_si {μ : gM} {j i : Nat} {x : Int32} (hj : j < 13) : nv 34 (si μ (34 + j) i x) = vset (nv 34 μ) j i x := by
  funext a b
  show (if a < 13 then (if 34 + a = 34 + j ∧ b = i then x else μ.1 (34 + a) b) else 0) = if a = j ∧ b = i then x else (if a < 13 then μ.1 (34 + a) b else 0)
  by_cases c : a = j ∧ b = i
  · rw [if_pos c, if_pos (by omega), if_pos (by omega)]
  · rw [if_neg c, if_neg (show ¬ (34 + a = 34 + j ∧ b = i) from fun w => c ⟨by omega, w.2⟩)]
theorem nv_cg {μ ν : gM} (h : ∀ k i, 34 ≤ k → k < 47 → ν.1 k i = μ.1 k i) : nv 34 ν = nv 34 μ := by
  funext a b
  show (if a < 13 then ν.1 (34 + a) b else 0) = if a < 13 then μ.1 (34 + a) b else 0
  by_cases c : a < 13
  · rw [if_pos c, if_pos c]; exact h _ _ (by omega) (by omega)
  · rw [if_neg c, if_neg c]
section CG
variable {u v : Nat → Nat → Int32}
theorem LI_cg {k : Nat} (hP : nP u = nP v) (hL : nL u = nL v) (h6 : u 6 k = v 6 k) (h7 : u 7 k = v 7 k) (h8 : u 8 k = v 8 k) (h9 : u 9 k = v 9 k) (h10 : ∀ s, s < ct v k → ∀ w, w < 4 → u 10 (32 * k + 4 * s + w) = v 10 (32 * k + 4 * s + w)) (H : LI v k) : LI u k := by
  have e1 : fs u k = fs v k := congrArg Int32.toNatClampNeg h6
  have e2 : sn u k = sn v k := congrArg Int32.toNatClampNeg h7
  have e3 : lv u k = lv v k := congrArg Int32.toNatClampNeg h8
  have e4 : ct u k = ct v k := congrArg Int32.toNatClampNeg h9
  obtain ⟨q1, q2, q3, q4, q5, q6, q7, q8, q9, q10, q11⟩ := H
  unfold LI
  rw [e1, e2, e3, e4, hP, hL, h6, h7, h8, h9]
  refine ⟨q1, q2, q3, q4, q5, q6, q7, q8, q9, q10, fun s hs => ?_⟩
  have r := h10 s hs
  have r0 := r 0 (by decide)
  rw [Nat.add_zero] at r0
  rw [r0, r 1 (by decide), r 2 (by decide), r 3 (by decide)]
  exact q11 s hs
theorem TI_cg {t : Nat} (hL : nL u = nL v) (h11 : u 11 t = v 11 t) (h12 : ∀ i, u 12 i = v 12 i) (H : TI v t) : TI u t := by
  have e1 : tl u t = tl v t := congrArg Int32.toNatClampNeg h11
  unfold TI
  rw [e1, h11, hL]
  refine ⟨H.1, H.2.1, fun h hh => ?_⟩
  rw [h12, h12, h12, h12]
  exact H.2.2 h hh
theorem CI_of (C : CI v) (e : ∀ i, i < 4 → u 0 i = v 0 i) (A : u 0 4 = nI (nA u) ∧ nA u < 2 ^ nN v) (s : inR 0 500 (u 1 0) ∧ inR 1 100 (u 1 1) ∧ inR 0 800 (u 1 2)) (c : ∀ l, l < nL v → inR (-200) 200 (u 3 l)) (h : ∀ p, p < nP v → u 5 p = -1 ∨ inR 0 9999999 (u 5 p)) (hl : ∀ k, k < nN v → LI u k) (ht : ∀ t, t < nT v → TI u t) : CI u := by
  have L : nL u = nL v := congrArg Int32.toNatClampNeg (e 0 (by decide))
  have P : nP u = nP v := congrArg Int32.toNatClampNeg (e 1 (by decide))
  have N : nN u = nN v := congrArg Int32.toNatClampNeg (e 2 (by decide))
  have T : nT u = nT v := congrArg Int32.toNatClampNeg (e 3 (by decide))
  obtain ⟨⟨a0, a1, a2, a3, a4⟩, ⟨b0, b1, b2, b3, b4⟩, -⟩ := C
  unfold CI
  rw [L, P, N, T, e 0 (by decide), e 1 (by decide), e 2 (by decide), e 3 (by decide)]
  exact ⟨⟨a0, a1, a2, a3, A.1⟩, ⟨b0, b1, b2, b3, A.2⟩, s, c, h, hl, ht⟩
theorem FM_cg {x : Nat → Int32} (e0 : ∀ i, i < 4 → u 0 i = v 0 i) (e : ∀ a b, a = 2 ∨ a = 4 ∨ a = 6 ∨ a = 7 ∨ a = 8 ∨ a = 11 ∨ a = 12 → u a b = v a b) (H : FM v x) : FM u x := by
  have L : nL u = nL v := congrArg Int32.toNatClampNeg (e0 0 (by decide))
  have P : nP u = nP v := congrArg Int32.toNatClampNeg (e0 1 (by decide))
  have N : nN u = nN v := congrArg Int32.toNatClampNeg (e0 2 (by decide))
  have T : nT u = nT v := congrArg Int32.toNatClampNeg (e0 3 (by decide))
  unfold FM
  rw [L, P, N, T, e0 0 (by decide), e0 1 (by decide), e0 2 (by decide), e0 3 (by decide)]
  refine ⟨H.1, fun k hk => ?_, fun t ht => ?_, fun l hl => ?_, fun p hp => ?_⟩
  · rw [e 6 k (by decide), e 7 k (by decide), e 8 k (by decide)]; exact H.2.1 k hk
  · rw [e 11 t (by decide)]
    refine ⟨(H.2.2.1 t ht).1, fun i hi => ?_⟩
    rw [e 12 _ (by decide)]; exact (H.2.2.1 t ht).2 i hi
  · rw [e 2 l (by decide)]; exact H.2.2.2.1 l hl
  · rw [e 4 p (by decide)]; exact H.2.2.2.2 p hp
theorem FM_vs {x : Nat → Int32} {j i : Nat} {y : Int32} (h : j = 1 ∨ j = 3 ∨ j = 5 ∨ j = 9 ∨ j = 10 ∨ (j = 0 ∧ i = 4)) (H : FM v x) : FM (vset v j i y) x :=
  FM_cg (fun q hq => if_neg (fun w => by omega)) (fun a b hab => if_neg (fun w => by omega)) H
theorem CI.ac (C : CI v) : v 0 4 = nI (nA v) ∧ nA v < 2 ^ nN v := ⟨C.1.2.2.2.2, C.2.1.2.2.2.2⟩
theorem CI_v5 (C : CI v) {a : Nat} {x : Int32} (hx : x = -1 ∨ inR 0 9999999 x) : CI (vset v 5 a x) :=
  CI_of C (fun i _ => vs_j (by decide)) (by rw [show nA (vset v 5 a x) = nA v from rfl]; exact C.ac) C.2.2.1 C.2.2.2.1 (fun p hp => by
    by_cases c : p = a
    · rw [c, vs_s]; exact hx
    · rw [vs_i c]; exact C.2.2.2.2.1 p hp) (fun k hk => LI_cg rfl rfl rfl rfl rfl rfl (fun _ _ _ _ => rfl) (C.line hk)) (fun t ht => TI_cg rfl rfl (fun _ => rfl) (C.2.2.2.2.2.2 t ht))
theorem CI_v3 (C : CI v) {a : Nat} {x : Int32} (hx : inR (-200) 200 x) : CI (vset v 3 a x) :=
  CI_of C (fun i _ => vs_j (by decide)) (by rw [show nA (vset v 3 a x) = nA v from rfl]; exact C.ac) C.2.2.1 (fun p hp => by
    by_cases c : p = a
    · rw [c, vs_s]; exact hx
    · rw [vs_i c]; exact C.2.2.2.1 p hp) C.2.2.2.2.1 (fun k hk => LI_cg rfl rfl rfl rfl rfl rfl (fun _ _ _ _ => rfl) (C.line hk)) (fun t ht => TI_cg rfl rfl (fun _ => rfl) (C.2.2.2.2.2.2 t ht))
def stHi (i : Nat) : Int := if i = 0 then 500 else if i = 1 then 100 else 800
def stLo (i : Nat) : Int := if i = 1 then 1 else 0
theorem CI_v1 (C : CI v) {a : Nat} {x : Int32} (ha : a < 3) (hx : inR (stLo a) (stHi a) x) : CI (vset v 1 a x) :=
  CI_of C (fun i _ => vs_j (by decide)) (by rw [show nA (vset v 1 a x) = nA v from rfl]; exact C.ac) (by
    have q := C.2.2.1
    have h3 : a = 0 ∨ a = 1 ∨ a = 2 := by omega
    rcases h3 with h | h | h <;> subst h
    · exact ⟨hx, q.2.1, q.2.2⟩
    · exact ⟨q.1, hx, q.2.2⟩
    · exact ⟨q.1, q.2.1, hx⟩) C.2.2.2.1 C.2.2.2.2.1 (fun k hk => LI_cg rfl rfl rfl rfl rfl rfl (fun _ _ _ _ => rfl) (C.line hk)) (fun t ht => TI_cg rfl rfl (fun _ => rfl) (C.2.2.2.2.2.2 t ht))
theorem CI_v0 (C : CI v) {a : Nat} (ha : a < 2 ^ nN v) : CI (vset v 0 4 (nI a)) := by
  have hb := C.b
  have h31 : a < 2 ^ 31 := Nat.lt_trans ha (Nat.pow_lt_pow_right (by decide) (by omega))
  have e : nA (vset v 0 4 (nI a)) = a := by
    show (vset v 0 4 (nI a) 0 4).toNatClampNeg = a
    rw [vs_s, nI_clamp h31]
  refine CI_of C (fun i hi => vs_i (by omega)) ⟨by rw [e, vs_s], by rw [e]; exact ha⟩ C.2.2.1 C.2.2.2.1 C.2.2.2.2.1 (fun k hk => LI_cg ?_ ?_ rfl rfl rfl rfl (fun _ _ _ _ => rfl) (C.line hk)) (fun t ht => TI_cg ?_ rfl (fun _ => rfl) (C.2.2.2.2.2.2 t ht))
  · exact congrArg Int32.toNatClampNeg (vs_i (by decide))
  · exact congrArg Int32.toNatClampNeg (vs_i (by decide))
  · exact congrArg Int32.toNatClampNeg (vs_i (by decide))
def gdN (w : Nat) (x : Int32) : Prop := if w < 2 then inR 0 40000 x else inR 1 100 x
theorem gdN_LI {k s : Nat} (H : LI v k) (hs : s < ct v k) {w : Nat} (hw : w < 4) : gdN w (v 10 (32 * k + 4 * s + w)) := by
  obtain ⟨a, b, c, d⟩ := H.2.2.2.2.2.2.2.2.2.2 s hs
  have h4 : w = 0 ∨ w = 1 ∨ w = 2 ∨ w = 3 := by omega
  rcases h4 with h | h | h | h <;> subst h
  · exact a
  · exact b
  · exact c
  · exact d
theorem LI_gd {k : Nat} (H : LI v k) (e : ∀ b, u 0 b = v 0 b) (h6 : u 6 k = v 6 k) (h7 : u 7 k = v 7 k) (h8 : u 8 k = v 8 k) (h9 : u 9 k = nI (ct u k)) (hc : 1 ≤ ct u k ∧ ct u k ≤ 8) (h10 : ∀ s, s < ct u k → ∀ w, w < 4 → gdN w (u 10 (32 * k + 4 * s + w))) : LI u k := by
  have hP : nP u = nP v := congrArg Int32.toNatClampNeg (e 1)
  have hL : nL u = nL v := congrArg Int32.toNatClampNeg (e 0)
  have e1 : fs u k = fs v k := congrArg Int32.toNatClampNeg h6
  have e2 : sn u k = sn v k := congrArg Int32.toNatClampNeg h7
  have e3 : lv u k = lv v k := congrArg Int32.toNatClampNeg h8
  obtain ⟨q1, q2, q3, q4, q5, q6, q7, q8, q9, q10, q11⟩ := H
  unfold LI
  rw [e1, e2, e3, hP, hL, h6, h7, h8]
  exact ⟨q1, q2, q3, q4, q5, q6, q7, h9, hc.1, hc.2, fun s hs => ⟨h10 s hs 0 (by decide), h10 s hs 1 (by decide), h10 s hs 2 (by decide), h10 s hs 3 (by decide)⟩⟩
theorem CI_v10 (C : CI v) {k s w : Nat} {x : Int32} (hk : k < nN v) (hw : w < 4) (hx : gdN w x) : CI (vset v 10 (32 * k + 4 * s + w) x) := by
  refine CI_of C (fun i _ => vs_j (by decide)) (by rw [show nA (vset v 10 (32 * k + 4 * s + w) x) = nA v from rfl]; exact C.ac) C.2.2.1 C.2.2.2.1 C.2.2.2.2.1 (fun q hq => LI_gd (C.line hq) (fun b => rfl) rfl rfl rfl (C.line hq).cnt.1 ⟨(C.line hq).cnt.2.1, (C.line hq).cnt.2.2⟩ (fun t ht y hy => ?_)) (fun t ht => TI_cg rfl rfl (fun _ => rfl) (C.2.2.2.2.2.2 t ht))
  have ht2 : t < ct v q := ht
  by_cases c : 32 * q + 4 * t + y = 32 * k + 4 * s + w
  · rw [c, vs_s]
    have : y = w := by omega
    rw [this]; exact hx
  · rw [vs_i c]; exact gdN_LI (C.line hq) ht2 hy
/-! the model's numbers after a change -/
theorem DM_of {d d2 : Nat → Int32} {j i y : Nat} {x : Int32} (C : CI v) (D : DM v d) (h : (j = 1 ∧ i < 3 ∧ y = i) ∨ (j = 3 ∧ i < nL v ∧ y = 3 + i) ∨ (j = 5 ∧ i < nP v ∧ y = 6 + i) ∨ (j = 10 ∧ y = 62 + i)) (e : ∀ q, q < 702 → d2 q = if q = y then x else d q) : DM (vset v j i x) d2 := by
  have hb := C.b
  have j0 : j ≠ 0 := by omega
  have j9 : j ≠ 9 := by omega
  have z : ∀ b, vset v j i x 0 b = v 0 b := fun b => vs_j (by omega)
  have L : nL (vset v j i x) = nL v := congrArg Int32.toNatClampNeg (z 0)
  have P : nP (vset v j i x) = nP v := congrArg Int32.toNatClampNeg (z 1)
  have N : nN (vset v j i x) = nN v := congrArg Int32.toNatClampNeg (z 2)
  have A : nA (vset v j i x) = nA v := congrArg Int32.toNatClampNeg (z 4)
  have E : ∀ k, ct (vset v j i x) k = ct v k := fun k => congrArg Int32.toNatClampNeg (vs_j (by omega))
  obtain ⟨q1, q2, q3, q4, q5, q6, q7⟩ := D
  unfold DM
  rw [L, P, N, A]
  refine ⟨fun p hp => ?_, fun p hp => ?_, fun p hp => ?_, fun p hp hp2 => ?_, fun p hp => ?_, fun p hp => ?_, fun k hk s hs w hw => ?_⟩
  · rw [e p (by omega)]
    by_cases c : j = 1 ∧ p = i
    · rw [if_pos (by omega), c.1, c.2, vs_s]
    · rw [if_neg (by omega), q1 p hp]; exact (if_neg (fun w => c ⟨w.1.symm, w.2⟩)).symm
  · rw [e _ (by omega)]
    by_cases c : j = 3 ∧ p = i
    · rw [if_pos (by omega), c.1, c.2, vs_s]
    · rw [if_neg (by omega), q2 p hp]; exact (if_neg (fun w => c ⟨w.1.symm, w.2⟩)).symm
  · rw [e _ (by omega)]
    by_cases c : j = 5 ∧ p = i
    · rw [if_pos (by omega), c.1, c.2, vs_s]
    · rw [if_neg (by omega), q3 p hp]; exact (if_neg (fun w => c ⟨w.1.symm, w.2⟩)).symm
  · rw [e _ (by omega), if_neg (by omega)]; exact q4 p hp hp2
  · rw [e _ (by omega), if_neg (by omega)]; exact q5 p hp
  · rw [e _ (by omega), if_neg (by omega), q6 p hp]; exact (vs_j (fun w => j9 w.symm)).symm
  · rw [E] at hs
    have hc := (C.line hk).cnt
    rw [e _ (by omega)]
    by_cases c : j = 10 ∧ 32 * k + 4 * s + w = i
    · rw [if_pos (by omega), c.1, c.2, vs_s]
    · rw [if_neg (by omega), q7 k hk s hs w hw]; exact (if_neg (fun w => c ⟨w.1.symm, w.2⟩)).symm
end CG

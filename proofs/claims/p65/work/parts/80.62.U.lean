/-! networks that hold the same; the changes that are kept -/
theorem vs_s {v : Nat → Nat → Int32} {j i : Nat} {x : Int32} : vset v j i x j i = x := if_pos ⟨rfl, rfl⟩
theorem vs_j {v : Nat → Nat → Int32} {j i a b : Nat} {x : Int32} (h : a ≠ j) : vset v j i x a b = v a b := if_neg (fun w => h w.1)
theorem vs_i {v : Nat → Nat → Int32} {j i a b : Nat} {x : Int32} (h : b ≠ i) : vset v j i x a b = v a b := if_neg (fun w => h w.2)
section EQ
variable {u v w : Nat → Nat → Int32}
theorem eqN.L (h : eqN u v) : nL u = nL v := congrArg Int32.toNatClampNeg h.1
theorem eqN.P (h : eqN u v) : nP u = nP v := congrArg Int32.toNatClampNeg h.2.1
theorem eqN.N (h : eqN u v) : nN u = nN v := congrArg Int32.toNatClampNeg h.2.2.1
theorem eqN.T (h : eqN u v) : nT u = nT v := congrArg Int32.toNatClampNeg h.2.2.2.1
theorem eqN.A (h : eqN u v) : nA u = nA v := congrArg Int32.toNatClampNeg h.2.2.2.2.1
theorem eqN.k (h : eqN u v) {k : Nat} (hk : k < nN v) : u 6 k = v 6 k ∧ u 7 k = v 7 k ∧ u 8 k = v 8 k ∧ u 9 k = v 9 k ∧ ∀ s, s < ct v k → ∀ w, w < 4 → u 10 (32 * k + 4 * s + w) = v 10 (32 * k + 4 * s + w) := h.2.2.2.2.2.2.2.2.1 k hk
theorem eqN.oCt (h : eqN u v) {k : Nat} (hk : k < nN v) : ct u k = ct v k := congrArg Int32.toNatClampNeg (h.k hk).2.2.2.1
theorem eqN.rf (v : Nat → Nat → Int32) : eqN v v := ⟨rfl, rfl, rfl, rfl, rfl, fun _ _ => rfl, fun _ _ => ⟨rfl, rfl⟩, fun _ _ => ⟨rfl, rfl⟩, fun _ _ => ⟨rfl, rfl, rfl, rfl, fun _ _ _ _ => rfl⟩, fun _ _ => ⟨rfl, fun _ _ => rfl⟩⟩
theorem eqN.tr (h : eqN u v) (g : eqN v w) : eqN u w := by
  refine ⟨h.1.trans g.1, h.2.1.trans g.2.1, h.2.2.1.trans g.2.2.1, h.2.2.2.1.trans g.2.2.2.1, h.2.2.2.2.1.trans g.2.2.2.2.1, fun i hi => (h.2.2.2.2.2.1 i hi).trans (g.2.2.2.2.2.1 i hi), fun l hl => ?_, fun p hp => ?_, fun k hk => ?_, fun t ht => ?_⟩
  · have a := h.2.2.2.2.2.2.1 l (by rw [g.L]; exact hl)
    have b := g.2.2.2.2.2.2.1 l hl
    exact ⟨a.1.trans b.1, a.2.trans b.2⟩
  · have a := h.2.2.2.2.2.2.2.1 p (by rw [g.P]; exact hp)
    have b := g.2.2.2.2.2.2.2.1 p hp
    exact ⟨a.1.trans b.1, a.2.trans b.2⟩
  · have a := h.k (k := k) (by rw [g.N]; exact hk)
    have b := g.k hk
    refine ⟨a.1.trans b.1, a.2.1.trans b.2.1, a.2.2.1.trans b.2.2.1, a.2.2.2.1.trans b.2.2.2.1, fun s hs q hq => ?_⟩
    exact (a.2.2.2.2 s (by rw [g.oCt hk]; exact hs) q hq).trans (b.2.2.2.2 s hs q hq)
  · have a := h.2.2.2.2.2.2.2.2.2 t (by rw [g.T]; exact ht)
    have b := g.2.2.2.2.2.2.2.2.2 t ht
    exact ⟨a.1.trans b.1, fun i hi => (a.2 i hi).trans (b.2 i hi)⟩
theorem eqN.sy (h : eqN u v) : eqN v u := by
  refine ⟨h.1.symm, h.2.1.symm, h.2.2.1.symm, h.2.2.2.1.symm, h.2.2.2.2.1.symm, fun i hi => (h.2.2.2.2.2.1 i hi).symm, fun l hl => ?_, fun p hp => ?_, fun k hk => ?_, fun t ht => ?_⟩
  · have a := h.2.2.2.2.2.2.1 l (by rw [← h.L]; exact hl)
    exact ⟨a.1.symm, a.2.symm⟩
  · have a := h.2.2.2.2.2.2.2.1 p (by rw [← h.P]; exact hp)
    exact ⟨a.1.symm, a.2.symm⟩
  · rw [h.N] at hk
    have a := h.k hk
    refine ⟨a.1.symm, a.2.1.symm, a.2.2.1.symm, a.2.2.2.1.symm, fun s hs q hq => (a.2.2.2.2 s (by rw [← h.oCt hk]; exact hs) q hq).symm⟩
  · have a := h.2.2.2.2.2.2.2.2.2 t (by rw [← h.T]; exact ht)
    exact ⟨a.1.symm, fun i hi => (a.2 i hi).symm⟩
theorem eqN.oLI (h : eqN u v) {k : Nat} (hk : k < nN v) (H : LI u k) : LI v k := by
  have a := h.k hk
  have e1 : fs u k = fs v k := congrArg Int32.toNatClampNeg a.1
  have e2 : sn u k = sn v k := congrArg Int32.toNatClampNeg a.2.1
  have e3 : lv u k = lv v k := congrArg Int32.toNatClampNeg a.2.2.1
  have e4 := h.oCt hk
  obtain ⟨q1, q2, q3, q4, q5, q6, q7, q8, q9, q10, q11⟩ := H
  rw [e1, a.1] at q1
  rw [e2, a.2.1] at q2
  rw [e1, h.P] at q3
  rw [e2, h.P] at q4
  rw [e1, e2] at q5
  rw [e3, a.2.2.1] at q6
  rw [e3, h.L] at q7
  rw [e4, a.2.2.2.1] at q8
  rw [e4] at q9 q10
  refine ⟨q1, q2, q3, q4, q5, q6, q7, q8, q9, q10, fun s hs => ?_⟩
  have b := q11 s (by rw [e4]; exact hs)
  have r := a.2.2.2.2 s hs
  have r0 := r 0 (by decide)
  rw [Nat.add_zero] at r0
  rw [r0, r 1 (by decide), r 2 (by decide), r 3 (by decide)] at b
  exact b
theorem eqN.oTI (h : eqN u v) {t : Nat} (ht : t < nT v) (H : TI u t) : TI v t := by
  have a := h.2.2.2.2.2.2.2.2.2 t ht
  have e1 : tl u t = tl v t := congrArg Int32.toNatClampNeg a.1
  obtain ⟨q1, q2, q3⟩ := H
  rw [e1, a.1] at q1
  rw [e1, h.L] at q2
  refine ⟨q1, q2, fun g hg => ?_⟩
  have b := q3 g hg
  have r0 := a.2 (4 * g) (by omega)
  have r1 := a.2 (4 * g + 1) (by omega)
  have r2 := a.2 (4 * g + 2) (by omega)
  have r3 := a.2 (4 * g + 3) (by omega)
  rw [show 8 * t + (4 * g + 1) = 8 * t + 4 * g + 1 by omega] at r1
  rw [show 8 * t + (4 * g + 2) = 8 * t + 4 * g + 2 by omega] at r2
  rw [show 8 * t + (4 * g + 3) = 8 * t + 4 * g + 3 by omega] at r3
  rw [r0, r1, r2, r3] at b
  exact b
theorem eqN.oCI (h : eqN u v) (C : CI u) : CI v := by
  obtain ⟨⟨a0, a1, a2, a3, a4⟩, ⟨b0, b1, b2, b3, b4⟩, c, d, e, f, g⟩ := C
  rw [h.L] at a0 b0 d
  rw [h.P] at a1 b1 e
  rw [h.N] at a2 b2 f
  rw [h.T] at a3 b3 g
  rw [h.A] at a4 b4
  rw [h.N] at b4
  rw [h.1] at a0
  rw [h.2.1] at a1
  rw [h.2.2.1] at a2
  rw [h.2.2.2.1] at a3
  rw [h.2.2.2.2.1] at a4
  have s0 := h.2.2.2.2.2.1 0 (by decide)
  have s1 := h.2.2.2.2.2.1 1 (by decide)
  have s2 := h.2.2.2.2.2.1 2 (by decide)
  rw [s0, s1, s2] at c
  refine ⟨⟨a0, a1, a2, a3, a4⟩, ⟨b0, b1, b2, b3, b4⟩, c, fun l hl => ?_, fun p hp => ?_, fun k hk => h.oLI hk (f k hk), fun t ht => h.oTI ht (g t ht)⟩
  · rw [← (h.2.2.2.2.2.2.1 l hl).2]; exact d l hl
  · rw [← (h.2.2.2.2.2.2.2.1 p hp).2]; exact e p hp
theorem eqN.oDM (h : eqN u v) {d : Nat → Int32} (D : DM u d) : DM v d := by
  obtain ⟨q1, q2, q3, q4, q5, q6, q7⟩ := D
  rw [h.L] at q2
  rw [h.P] at q3 q4
  rw [h.N] at q5 q6 q7
  rw [h.A] at q5
  refine ⟨fun i hi => (q1 i hi).trans (h.2.2.2.2.2.1 i hi), fun l hl => (q2 l hl).trans (h.2.2.2.2.2.2.1 l hl).2, fun p hp => (q3 p hp).trans (h.2.2.2.2.2.2.2.1 p hp).2, q4, q5, fun k hk => (q6 k hk).trans (h.k hk).2.2.2.1, fun k hk s hs w hw => ?_⟩
  exact (q7 k hk s (by rw [h.oCt hk]; exact hs) w hw).trans ((h.k hk).2.2.2.2 s hs w hw)
theorem eqN.oRch (h : eqN u v) : ∀ n p, rch u n p → rch v n p
  | 0, p, q => by
    have q1 : p < nP v := by rw [← h.P]; exact q.1
    exact ⟨q1, by rw [← (h.2.2.2.2.2.2.2.1 p q1).2]; exact q.2⟩
  | n + 1, p, q => by
    rcases q with q | ⟨k, hk, hA, q⟩
    · exact Or.inl (eqN.oRch h n p q)
    · rw [h.N] at hk
      rw [h.A] at hA
      have a := h.k hk
      have e1 : fs u k = fs v k := congrArg Int32.toNatClampNeg a.1
      have e2 : sn u k = sn v k := congrArg Int32.toNatClampNeg a.2.1
      rw [e1, e2] at q
      refine Or.inr ⟨k, hk, hA, ?_⟩
      rcases q with ⟨q1, q2⟩ | ⟨q1, q2⟩
      · exact Or.inl ⟨q1, eqN.oRch h n _ q2⟩
      · exact Or.inr ⟨q1, eqN.oRch h n _ q2⟩
theorem eqN.oHM (h : eqN u v) {z : Int32} {a : Nat → Int64} {d : Nat → Int32} {g : Nat → Int64} (H : HM u z a d g) : HM v z a d g := by
  refine ⟨H.1, H.2.1, fun hz p hp => ?_⟩
  have q := H.2.2 hz p (by rw [h.P]; exact hp)
  refine ⟨q.1, q.2.1.trans ⟨fun w ⟨n, hn⟩ => w ⟨n, h.sy.oRch n p hn⟩, fun w ⟨n, hn⟩ => w ⟨n, h.oRch n p hn⟩⟩, q.2.2⟩
theorem eqN.oVs (h : eqN u v) (j i : Nat) (x : Int32) (hj : 1 ≤ j) (h9 : j = 9 → ∃ c, x = nI c ∧ c ≤ ct v i ∧ i < nN v ∧ ct v i ≤ 8) : eqN (vset u j i x) (vset v j i x) := by
  have key : ∀ a b, u a b = v a b → vset u j i x a b = vset v j i x a b := fun a b e => by
    unfold vset
    rw [e]
  have z : ∀ b, vset v j i x 0 b = v 0 b := fun b => vs_j (by omega)
  have L2 : nL (vset v j i x) = nL v := congrArg Int32.toNatClampNeg (z 0)
  have P2 : nP (vset v j i x) = nP v := congrArg Int32.toNatClampNeg (z 1)
  have N2 : nN (vset v j i x) = nN v := congrArg Int32.toNatClampNeg (z 2)
  have T2 : nT (vset v j i x) = nT v := congrArg Int32.toNatClampNeg (z 3)
  refine ⟨key _ _ h.1, key _ _ h.2.1, key _ _ h.2.2.1, key _ _ h.2.2.2.1, key _ _ h.2.2.2.2.1, fun q hq => key _ _ (h.2.2.2.2.2.1 q hq), fun l hl => ?_, fun p hp => ?_, fun k hk => ?_, fun t ht => ?_⟩
  · rw [L2] at hl
    have a := h.2.2.2.2.2.2.1 l hl
    exact ⟨key _ _ a.1, key _ _ a.2⟩
  · rw [P2] at hp
    have a := h.2.2.2.2.2.2.2.1 p hp
    exact ⟨key _ _ a.1, key _ _ a.2⟩
  · rw [N2] at hk
    have a := h.k hk
    refine ⟨key _ _ a.1, key _ _ a.2.1, key _ _ a.2.2.1, key _ _ a.2.2.2.1, fun s hs q hq => key _ _ (a.2.2.2.2 s ?_ q hq)⟩
    unfold ct at hs ⊢
    by_cases e : 9 = j ∧ k = i
    · obtain ⟨e1, e2⟩ := e
      subst e2
      obtain ⟨c, hc, hc2, hc3, hc4⟩ := h9 e1.symm
      rw [show vset v j k x 9 k = x from if_pos ⟨e1, rfl⟩, hc, nI_clamp (by omega)] at hs
      exact Nat.lt_of_lt_of_le hs hc2
    · rwa [show vset v j i x 9 k = v 9 k from if_neg e] at hs
  · rw [T2] at ht
    have a := h.2.2.2.2.2.2.2.2.2 t ht
    exact ⟨key _ _ a.1, fun q hq => key _ _ (a.2 q hq)⟩
theorem eqN.act (h : eqN u v) (x : Int32) : eqN (vset u 0 4 x) (vset v 0 4 x) := by
  have key : ∀ a b, u a b = v a b → vset u 0 4 x a b = vset v 0 4 x a b := fun a b e => by
    unfold vset
    rw [e]
  exact ⟨key _ _ h.1, key _ _ h.2.1, key _ _ h.2.2.1, key _ _ h.2.2.2.1, key _ _ h.2.2.2.2.1, fun q hq => key _ _ (h.2.2.2.2.2.1 q hq), fun l hl => ⟨key _ _ (h.2.2.2.2.2.2.1 l hl).1, key _ _ (h.2.2.2.2.2.2.1 l hl).2⟩, fun p hp => ⟨key _ _ (h.2.2.2.2.2.2.2.1 p hp).1, key _ _ (h.2.2.2.2.2.2.2.1 p hp).2⟩,
    fun k hk => ⟨key _ _ (h.k hk).1, key _ _ (h.k hk).2.1, key _ _ (h.k hk).2.2.1, key _ _ (h.k hk).2.2.2.1, fun s hs q hq => key _ _ ((h.k hk).2.2.2.2 s hs q hq)⟩, fun t ht => ⟨key _ _ (h.2.2.2.2.2.2.2.2.2 t ht).1, fun q hq => key _ _ ((h.2.2.2.2.2.2.2.2.2 t ht).2 q hq)⟩⟩
theorem eqN.oUn (h : eqN u v) (C : CI u) {K I B : Nat → Int32} {q : Nat} (H : undo1 K I B q u w) : undo1 K I B q v w := by
  rcases H with ⟨hk, i, hi, e1, e2⟩ | ⟨hk, k, s, x, h1, h2, h3, e1, e2⟩ | ⟨hk, k, c, h1, h2, e1, e3, e2⟩ | ⟨hk, a, e1, h1, e2⟩ | ⟨hk, i, hi, e1, e2⟩ | ⟨hk, i, hi, e1, e2⟩ | ⟨hk, e2⟩
  · exact Or.inl ⟨hk, i, by rw [← h.P]; exact hi, e1, e2.tr (h.oVs 5 i _ (by decide) (fun q => absurd q (by decide)))⟩
  · rw [h.N] at h1
    rw [h.oCt h1] at h2
    exact Or.inr (Or.inl ⟨hk, k, s, x, h1, h2, h3, e1, e2.tr (h.oVs 10 _ _ (by decide) (fun q => absurd q (by decide)))⟩)
  · have h8 := (C.line h1).cnt
    rw [h.N] at h1
    rw [h.oCt h1] at h2 h8
    exact Or.inr (Or.inr (Or.inl ⟨hk, k, c, h1, h2, e1, e3, e2.tr (h.oVs 9 k _ (by decide) (fun _ => ⟨c, rfl, h2, h1, by omega⟩))⟩))
  · rw [h.N] at h1
    exact Or.inr (Or.inr (Or.inr (Or.inl ⟨hk, a, e1, h1, e2.tr (h.act _)⟩)))
  · exact Or.inr (Or.inr (Or.inr (Or.inr (Or.inl ⟨hk, i, by rw [← h.L]; exact hi, e1, e2.tr (h.oVs 3 i _ (by decide) (fun q => absurd q (by decide)))⟩))))
  · exact Or.inr (Or.inr (Or.inr (Or.inr (Or.inr (Or.inl ⟨hk, i, hi, e1, e2.tr (h.oVs 1 i _ (by decide) (fun q => absurd q (by decide)))⟩)))))
  · exact Or.inr (Or.inr (Or.inr (Or.inr (Or.inr (Or.inr ⟨hk, e2.tr h⟩)))))
end EQ
section RHS
variable {K I B Z K2 I2 B2 Z2 : Nat → Int32} {J J2 : Nat → Int64} {h h2 : Nat → Int32} {g g2 : Nat → Int64} {v w : Nat → Nat → Int32}
theorem RH.eq {o n : Nat} (e : eqN w v) (C : CI w) (H : RH K I B Z J o h g n w) : RH K I B Z J o h g n v := by
  cases n with
  | zero => trivial
  | succ n =>
    obtain ⟨u, a, b, c⟩ := H
    exact ⟨u, a, e.oUn C b, c⟩
theorem DM.cg (C : CI v) {d d2 : Nat → Int32} (e : ∀ i, i < 703 → d2 i = d i) (D : DM v d) : DM v d2 := by
  have hb := C.b
  obtain ⟨q1, q2, q3, q4, q5, q6, q7⟩ := D
  refine ⟨fun i hi => (e _ (by omega)).trans (q1 i hi), fun i hi => (e _ (by omega)).trans (q2 i hi), fun i hi => (e _ (by omega)).trans (q3 i hi), fun i hi hj => (e _ (by omega)).trans (q4 i hi hj), fun i hi => (e _ (by omega)).trans (q5 i hi), fun i hi => (e _ (by omega)).trans (q6 i hi), fun k hk s hs w hw => ?_⟩
  have := (C.line hk).cnt
  exact (e _ (by omega)).trans (q7 k hk s hs w hw)
theorem HM.cg (C : CI v) {z : Int32} {a a2 : Nat → Int64} {d d2 : Nat → Int32} {y y2 : Nat → Int64} (e : d2 702 = d 702) (e1 : ∀ p, p < 16 → a2 p = a p) (e2 : ∀ p, p < 16 → y2 p = y p) (H : HM v z a d y) : HM v z a2 d2 y2 := by
  have hb := C.b
  refine ⟨H.1, e.trans H.2.1, fun hz p hp => ?_⟩
  rw [e1 p (by omega), e2 p (by omega)]
  exact H.2.2 hz p hp
/-- the same changes, where they lie in other places: from s on -/
theorem RH.mv {o o2 s : Nat} : ∀ n v, (∀ j, j < n → K2 ((o2 + j) % 8) = K ((o + (s + j)) % 8) ∧ I2 ((o2 + j) % 8) = I ((o + (s + j)) % 8) ∧ B2 ((o2 + j) % 8) = B ((o + (s + j)) % 8) ∧ Z2 ((o2 + j) % 8) = Z ((o + (s + j)) % 8) ∧ (∀ p, p < 16 → J2 (16 * ((o2 + j) % 8) + p) = J (16 * ((o + (s + j)) % 8) + p)) ∧ (∀ i, i < 703 → h2 (703 * j + i) = h (703 * (s + j) + i)) ∧ ∀ p, p < 16 → g2 (16 * j + p) = g (16 * (s + j) + p)) → RH K I B Z J o h g (s + n) v → RH K2 I2 B2 Z2 J2 o2 h2 g2 n v
  | 0, _, _, _ => trivial
  | n + 1, v, e, H => by
    obtain ⟨u, a, b, c, d, r⟩ := H
    obtain ⟨e1, e2, e3, e4, e5, e6, e7⟩ := e n (by omega)
    refine ⟨u, a, ?_, c.cg a e6, ?_, RH.mv n u (fun j hj => e j (by omega)) r⟩
    · unfold undo1 at b ⊢
      rw [e1, e2, e3]
      exact b
    · rw [e4]
      exact d.cg a (e6 702 (by decide)) e5 e7
end RHS

section GR
variable {u v : Nat → Nat → Int32} {d d2 x x2 : Nat → Int32}
/-! a network that grows while it is read -/
theorem LI_mn {k : Nat} (hP : nP v ≤ nP u) (hL : nL v ≤ nL u) (h : ∀ j, 6 ≤ j → j ≤ 9 → u j k = v j k) (h10 : ∀ s, s < ct v k → ∀ w, w < 4 → u 10 (32 * k + 4 * s + w) = v 10 (32 * k + 4 * s + w)) (H : LI v k) : LI u k := by
  have h6 := h 6 (by omega) (by omega)
  have h7 := h 7 (by omega) (by omega)
  have h8 := h 8 (by omega) (by omega)
  have h9 := h 9 (by omega) (by omega)
  have e6 : fs u k = fs v k := congrArg Int32.toNatClampNeg h6
  have e7 : sn u k = sn v k := congrArg Int32.toNatClampNeg h7
  have e8 : lv u k = lv v k := congrArg Int32.toNatClampNeg h8
  have e9 : ct u k = ct v k := congrArg Int32.toNatClampNeg h9
  obtain ⟨a1, a2, a3, a4, a5, a6, a7, a8, a9, a10, a11⟩ := H
  unfold LI
  rw [e6, e7, e8, e9, h6, h7, h8, h9]
  refine ⟨a1, a2, by omega, by omega, a5, a6, by omega, a8, a9, a10, fun s hs => ?_⟩
  rw [show u 10 (32 * k + 4 * s) = v 10 (32 * k + 4 * s) from h10 s hs 0 (by decide), h10 s hs 1 (by decide), h10 s hs 2 (by decide), h10 s hs 3 (by decide)]
  exact a11 s hs
theorem TI_mn {t : Nat} (hL : nL v ≤ nL u) (h11 : u 11 t = v 11 t) (h12 : ∀ i, i < 8 → u 12 (8 * t + i) = v 12 (8 * t + i)) (H : TI v t) : TI u t := by
  have e1 : tl u t = tl v t := congrArg Int32.toNatClampNeg h11
  unfold TI
  rw [e1, h11]
  refine ⟨H.1, by have := H.2.1; omega, fun h hh => ?_⟩
  rw [h12 (4 * h) (by omega), show 8 * t + 4 * h + 1 = 8 * t + (4 * h + 1) by omega, show 8 * t + 4 * h + 2 = 8 * t + (4 * h + 2) by omega, show 8 * t + 4 * h + 3 = 8 * t + (4 * h + 3) by omega, h12 (4 * h + 1) (by omega), h12 (4 * h + 2) (by omega), h12 (4 * h + 3) (by omega)]
  exact H.2.2 h hh
theorem nat_of {a : Int32} {m : Nat} (h : a = nI m) (hm : m < 2 ^ 31) : a.toNatClampNeg = m := by rw [h, nI_clamp hm]
theorem GR_level (C : CI v) (D : DM v d) (F : FM v x) (hb : nL v < 3) {w c : Int32} (hc : inR (-200) 200 c) (h0 : u 0 0 = nI (nL v + 1)) (h2 : u 2 (nL v) = w) (h3 : u 3 (nL v) = c) (hu : ∀ j i, ¬ (j = 0 ∧ i = 0) → ¬ (j = 2 ∧ i = nL v) → ¬ (j = 3 ∧ i = nL v) → u j i = v j i)
    (d3 : d2 (3 + nL v) = c) (hd : ∀ q, q ≠ 3 + nL v → d2 q = d q) (x0 : x2 0 = nI (nL v + 1)) (x1 : x2 (118 + nL v) = w) (hx : ∀ q, q ≠ 0 → q ≠ 118 + nL v → x2 q = x q) : CI u ∧ DM u d2 ∧ FM u x2 := by
  have L : nL u = nL v + 1 := nat_of h0 (by omega)
  have P : nP u = nP v := congrArg Int32.toNatClampNeg (hu 0 1 (by omega) (by omega) (by omega))
  have N : nN u = nN v := congrArg Int32.toNatClampNeg (hu 0 2 (by omega) (by omega) (by omega))
  have T : nT u = nT v := congrArg Int32.toNatClampNeg (hu 0 3 (by omega) (by omega) (by omega))
  have A : nA u = nA v := congrArg Int32.toNatClampNeg (hu 0 4 (by omega) (by omega) (by omega))
  have s : ∀ j i, j ≠ 0 → j ≠ 2 → j ≠ 3 → u j i = v j i := fun j i q0 q2 q3 => hu j i (by omega) (by omega) (by omega)
  have ce : ∀ k, ct u k = ct v k := fun k => congrArg Int32.toNatClampNeg (s 9 k (by omega) (by omega) (by omega))
  obtain ⟨⟨c1, c2, c3, c4, c5⟩, ⟨b1, b2, b3, b4, b5⟩, cs, cc, ch, cl, ctt⟩ := C
  obtain ⟨f1, f2, f3, f4, f5⟩ := F
  obtain ⟨g1, g2, g3, g4, g5, g6, g7⟩ := D
  refine ⟨⟨⟨?_, ?_, ?_, ?_, ?_⟩, ?_, ?_, fun l hl => ?_, fun p hp => ?_, fun k hk => ?_, fun t ht => ?_⟩, ?_, ?_⟩
  · rw [L]; exact h0
  · rw [P, hu 0 1 (by omega) (by omega) (by omega)]; exact c2
  · rw [N, hu 0 2 (by omega) (by omega) (by omega)]; exact c3
  · rw [T, hu 0 3 (by omega) (by omega) (by omega)]; exact c4
  · rw [A, hu 0 4 (by omega) (by omega) (by omega)]; exact c5
  · rw [L, P, N, T, A]; exact ⟨by omega, b2, b3, b4, b5⟩
  · rw [s 1 0 (by omega) (by omega) (by omega), s 1 1 (by omega) (by omega) (by omega), s 1 2 (by omega) (by omega) (by omega)]; exact cs
  · by_cases e : l = nL v
    · rw [e, h3]; exact hc
    · rw [hu 3 l (by omega) (by omega) (by omega)]; exact cc l (by omega)
  · rw [s 5 p (by omega) (by omega) (by omega)]; exact ch p (by omega)
  · exact LI_mn (by omega) (by omega) (fun j j1 j2 => s j k (by omega) (by omega) (by omega)) (fun q _ w _ => s 10 _ (by omega) (by omega) (by omega)) (cl k (by omega))
  · exact TI_mn (by omega) (s 11 t (by omega) (by omega) (by omega)) (fun i _ => s 12 _ (by omega) (by omega) (by omega)) (ctt t (by omega))
  · unfold DM
    rw [L, P, N, A]
    refine ⟨fun i hi => ?_, fun l hl => ?_, fun p hp => ?_, fun p hp hp2 => ?_, fun k hk => ?_, fun k hk => ?_, fun k hk q hq w hw => ?_⟩
    · rw [hd _ (by omega), s 1 i (by omega) (by omega) (by omega)]; exact g1 i hi
    · by_cases e : l = nL v
      · rw [e, h3]; exact d3
      · rw [hd _ (by omega), hu 3 l (by omega) (by omega) (by omega)]; exact g2 l (by omega)
    · rw [hd _ (by omega), s 5 p (by omega) (by omega) (by omega)]; exact g3 p hp
    · rw [hd _ (by omega)]; exact g4 p hp hp2
    · rw [hd _ (by omega)]; exact g5 k hk
    · rw [hd _ (by omega), s 9 k (by omega) (by omega) (by omega)]; exact g6 k hk
    · rw [ce] at hq
      rw [hd _ (by omega), s 10 _ (by omega) (by omega) (by omega)]; exact g7 k hk q hq w hw
  · unfold FM
    rw [L, P, N, T]
    refine ⟨⟨?_, ?_, ?_, ?_⟩, fun k hk => ?_, fun t ht => ?_, fun l hl => ?_, fun p hp => ?_⟩
    · rw [x0, h0]
    · rw [hx _ (by omega) (by omega), hu 0 1 (by omega) (by omega) (by omega)]; exact f1.2.1
    · rw [hx _ (by omega) (by omega), hu 0 2 (by omega) (by omega) (by omega)]; exact f1.2.2.1
    · rw [hx _ (by omega) (by omega), hu 0 3 (by omega) (by omega) (by omega)]; exact f1.2.2.2
    · rw [hx _ (by omega) (by omega), hx _ (by omega) (by omega), hx _ (by omega) (by omega), s 6 k (by omega) (by omega) (by omega), s 7 k (by omega) (by omega) (by omega), s 8 k (by omega) (by omega) (by omega)]; exact f2 k hk
    · have F3 := f3 t ht
      refine ⟨?_, fun i hi => ?_⟩
      · rw [hx _ (by omega) (by omega), s 11 t (by omega) (by omega) (by omega)]; exact F3.1
      · rw [hx _ (by omega) (by omega), s 12 _ (by omega) (by omega) (by omega)]; exact F3.2 i hi
    · by_cases e : l = nL v
      · rw [e, x1, h2]
      · rw [hx _ (by omega) (by omega), hu 2 l (by omega) (by omega) (by omega)]; exact f4 l (by omega)
    · rw [hx _ (by omega) (by omega), s 4 p (by omega) (by omega) (by omega)]; exact f5 p hp
theorem GR_point (C : CI v) (D : DM v d) (F : FM v x) (hb : nP v < 16) {w c : Int32} (hc : c = -1 ∨ inR 0 9999999 c) (h0 : u 0 1 = nI (nP v + 1)) (h2 : u 4 (nP v) = w) (h3 : u 5 (nP v) = c) (hu : ∀ j i, ¬ (j = 0 ∧ i = 1) → ¬ (j = 4 ∧ i = nP v) → ¬ (j = 5 ∧ i = nP v) → u j i = v j i)
    (d3 : d2 (6 + nP v) = c) (hd : ∀ q, q ≠ 6 + nP v → d2 q = d q) (x0 : x2 1 = nI (nP v + 1)) (x1 : x2 (121 + nP v) = w) (hx : ∀ q, q ≠ 1 → q ≠ 121 + nP v → x2 q = x q) : CI u ∧ DM u d2 ∧ FM u x2 := by
  have L : nL u = nL v := congrArg Int32.toNatClampNeg (hu 0 0 (by omega) (by omega) (by omega))
  have P : nP u = nP v + 1 := nat_of h0 (by omega)
  have N : nN u = nN v := congrArg Int32.toNatClampNeg (hu 0 2 (by omega) (by omega) (by omega))
  have T : nT u = nT v := congrArg Int32.toNatClampNeg (hu 0 3 (by omega) (by omega) (by omega))
  have A : nA u = nA v := congrArg Int32.toNatClampNeg (hu 0 4 (by omega) (by omega) (by omega))
  have s : ∀ j i, j ≠ 0 → j ≠ 4 → j ≠ 5 → u j i = v j i := fun j i q0 q2 q3 => hu j i (by omega) (by omega) (by omega)
  have ce : ∀ k, ct u k = ct v k := fun k => congrArg Int32.toNatClampNeg (s 9 k (by omega) (by omega) (by omega))
  obtain ⟨⟨c1, c2, c3, c4, c5⟩, ⟨b1, b2, b3, b4, b5⟩, cs, cc, ch, cl, ctt⟩ := C
  obtain ⟨f1, f2, f3, f4, f5⟩ := F
  obtain ⟨g1, g2, g3, g4, g5, g6, g7⟩ := D
  refine ⟨⟨⟨?_, ?_, ?_, ?_, ?_⟩, ?_, ?_, fun l hl => ?_, fun p hp => ?_, fun k hk => ?_, fun t ht => ?_⟩, ?_, ?_⟩
  · rw [L, hu 0 0 (by omega) (by omega) (by omega)]; exact c1
  · rw [P]; exact h0
  · rw [N, hu 0 2 (by omega) (by omega) (by omega)]; exact c3
  · rw [T, hu 0 3 (by omega) (by omega) (by omega)]; exact c4
  · rw [A, hu 0 4 (by omega) (by omega) (by omega)]; exact c5
  · rw [L, P, N, T, A]; exact ⟨b1, by omega, b3, b4, b5⟩
  · rw [s 1 0 (by omega) (by omega) (by omega), s 1 1 (by omega) (by omega) (by omega), s 1 2 (by omega) (by omega) (by omega)]; exact cs
  · rw [s 3 l (by omega) (by omega) (by omega)]; exact cc l (by omega)
  · by_cases e : p = nP v
    · rw [e, h3]; exact hc
    · rw [hu 5 p (by omega) (by omega) (by omega)]; exact ch p (by omega)
  · exact LI_mn (by omega) (by omega) (fun j j1 j2 => s j k (by omega) (by omega) (by omega)) (fun q _ w _ => s 10 _ (by omega) (by omega) (by omega)) (cl k (by omega))
  · exact TI_mn (by omega) (s 11 t (by omega) (by omega) (by omega)) (fun i _ => s 12 _ (by omega) (by omega) (by omega)) (ctt t (by omega))
  · unfold DM
    rw [L, P, N, A]
    refine ⟨fun i hi => ?_, fun l hl => ?_, fun p hp => ?_, fun p hp hp2 => ?_, fun k hk => ?_, fun k hk => ?_, fun k hk q hq w hw => ?_⟩
    · rw [hd _ (by omega), s 1 i (by omega) (by omega) (by omega)]; exact g1 i hi
    · rw [hd _ (by omega), s 3 l (by omega) (by omega) (by omega)]; exact g2 l (by omega)
    · by_cases e : p = nP v
      · rw [e, h3]; exact d3
      · rw [hd _ (by omega), hu 5 p (by omega) (by omega) (by omega)]; exact g3 p (by omega)
    · rw [hd _ (by omega)]; exact g4 p (by omega) hp2
    · rw [hd _ (by omega)]; exact g5 k hk
    · rw [hd _ (by omega), s 9 k (by omega) (by omega) (by omega)]; exact g6 k hk
    · rw [ce] at hq
      rw [hd _ (by omega), s 10 _ (by omega) (by omega) (by omega)]; exact g7 k hk q hq w hw
  · unfold FM
    rw [L, P, N, T]
    refine ⟨⟨?_, ?_, ?_, ?_⟩, fun k hk => ?_, fun t ht => ?_, fun l hl => ?_, fun p hp => ?_⟩
    · rw [hx _ (by omega) (by omega), hu 0 0 (by omega) (by omega) (by omega)]; exact f1.1
    · rw [x0, h0]
    · rw [hx _ (by omega) (by omega), hu 0 2 (by omega) (by omega) (by omega)]; exact f1.2.2.1
    · rw [hx _ (by omega) (by omega), hu 0 3 (by omega) (by omega) (by omega)]; exact f1.2.2.2
    · rw [hx _ (by omega) (by omega), hx _ (by omega) (by omega), hx _ (by omega) (by omega), s 6 k (by omega) (by omega) (by omega), s 7 k (by omega) (by omega) (by omega), s 8 k (by omega) (by omega) (by omega)]; exact f2 k hk
    · have F3 := f3 t ht
      refine ⟨?_, fun i hi => ?_⟩
      · rw [hx _ (by omega) (by omega), s 11 t (by omega) (by omega) (by omega)]; exact F3.1
      · rw [hx _ (by omega) (by omega), s 12 _ (by omega) (by omega) (by omega)]; exact F3.2 i hi
    · rw [hx _ (by omega) (by omega), s 2 l (by omega) (by omega) (by omega)]; exact f4 l hl
    · by_cases e : p = nP v
      · rw [e, x1, h2]
      · rw [hx _ (by omega) (by omega), hu 4 p (by omega) (by omega) (by omega)]; exact f5 p (by omega)
theorem GR_test (C : CI v) (D : DM v d) (F : FM v x) (hb : nT v < 6) {l : Nat} (hl : l < nL v) (h0 : u 0 3 = nI (nT v + 1)) (h2 : u 11 (nT v) = nI l) (h3 : ∀ i, i < 8 → gdN (i % 4) (u 12 (8 * nT v + i))) (hu : ∀ j i, ¬ (j = 0 ∧ i = 3) → ¬ (j = 11 ∧ i = nT v) → ¬ (j = 12 ∧ 8 * nT v ≤ i) → u j i = v j i)
    (hd : ∀ q, d2 q = d q) (x0 : x2 3 = nI (nT v + 1)) (x1 : x2 (64 + 9 * nT v) = nI l) (xi : ∀ i, i < 8 → x2 (64 + 9 * nT v + 1 + i) = u 12 (8 * nT v + i)) (hx : ∀ q, q ≠ 3 → (q < 64 + 9 * nT v ∨ 64 + 9 * nT v + 8 < q) → x2 q = x q) : CI u ∧ DM u d2 ∧ FM u x2 := by
  have L : nL u = nL v := congrArg Int32.toNatClampNeg (hu 0 0 (by omega) (by omega) (by omega))
  have P : nP u = nP v := congrArg Int32.toNatClampNeg (hu 0 1 (by omega) (by omega) (by omega))
  have N : nN u = nN v := congrArg Int32.toNatClampNeg (hu 0 2 (by omega) (by omega) (by omega))
  have T : nT u = nT v + 1 := nat_of h0 (by omega)
  have A : nA u = nA v := congrArg Int32.toNatClampNeg (hu 0 4 (by omega) (by omega) (by omega))
  have s : ∀ j i, j ≠ 0 → j ≠ 11 → j ≠ 12 → u j i = v j i := fun j i q0 q2 q3 => hu j i (by omega) (by omega) (by omega)
  have ce : ∀ k, ct u k = ct v k := fun k => congrArg Int32.toNatClampNeg (s 9 k (by omega) (by omega) (by omega))
  obtain ⟨⟨c1, c2, c3, c4, c5⟩, ⟨b1, b2, b3, b4, b5⟩, cs, cc, ch, cl, ctt⟩ := C
  obtain ⟨f1, f2, f3, f4, f5⟩ := F
  obtain ⟨g1, g2, g3, g4, g5, g6, g7⟩ := D
  refine ⟨⟨⟨?_, ?_, ?_, ?_, ?_⟩, ?_, ?_, fun l hl => ?_, fun p hp => ?_, fun k hk => ?_, fun t ht => ?_⟩, ?_, ?_⟩
  · rw [L, hu 0 0 (by omega) (by omega) (by omega)]; exact c1
  · rw [P, hu 0 1 (by omega) (by omega) (by omega)]; exact c2
  · rw [N, hu 0 2 (by omega) (by omega) (by omega)]; exact c3
  · rw [T]; exact h0
  · rw [A, hu 0 4 (by omega) (by omega) (by omega)]; exact c5
  · rw [L, P, N, T, A]; exact ⟨b1, b2, b3, by omega, b5⟩
  · rw [s 1 0 (by omega) (by omega) (by omega), s 1 1 (by omega) (by omega) (by omega), s 1 2 (by omega) (by omega) (by omega)]; exact cs
  · rw [s 3 l (by omega) (by omega) (by omega)]; exact cc l (by omega)
  · rw [s 5 p (by omega) (by omega) (by omega)]; exact ch p (by omega)
  · exact LI_mn (by omega) (by omega) (fun j j1 j2 => s j k (by omega) (by omega) (by omega)) (fun q _ w _ => s 10 _ (by omega) (by omega) (by omega)) (cl k (by omega))
  · by_cases e : t = nT v
    · have e1 : tl u t = l := nat_of (by rw [e]; exact h2) (by omega)
      unfold TI
      rw [e1, e]
      refine ⟨h2, by omega, fun h hh => ?_⟩
      have q0 := h3 (4 * h) (by omega)
      have q1 := h3 (4 * h + 1) (by omega)
      have q2 := h3 (4 * h + 2) (by omega)
      have q3 := h3 (4 * h + 3) (by omega)
      rw [show 4 * h % 4 = 0 by omega] at q0
      rw [show (4 * h + 1) % 4 = 1 by omega] at q1
      rw [show (4 * h + 2) % 4 = 2 by omega] at q2
      rw [show (4 * h + 3) % 4 = 3 by omega] at q3
      exact ⟨q0, q1, q2, q3⟩
    · exact TI_mn (by omega) (hu 11 t (by omega) (by omega) (by omega)) (fun i _ => hu 12 _ (by omega) (by omega) (by omega)) (ctt t (by omega))
  · unfold DM
    rw [L, P, N, A]
    refine ⟨fun i hi => ?_, fun l hl => ?_, fun p hp => ?_, fun p hp hp2 => ?_, fun k hk => ?_, fun k hk => ?_, fun k hk q hq w hw => ?_⟩
    · rw [hd, s 1 i (by omega) (by omega) (by omega)]; exact g1 i hi
    · rw [hd, s 3 l (by omega) (by omega) (by omega)]; exact g2 l (by omega)
    · rw [hd, s 5 p (by omega) (by omega) (by omega)]; exact g3 p hp
    · rw [hd]; exact g4 p hp hp2
    · rw [hd]; exact g5 k hk
    · rw [hd, s 9 k (by omega) (by omega) (by omega)]; exact g6 k hk
    · rw [ce] at hq
      rw [hd, s 10 _ (by omega) (by omega) (by omega)]; exact g7 k hk q hq w hw
  · unfold FM
    rw [L, P, N, T]
    refine ⟨⟨?_, ?_, ?_, ?_⟩, fun k hk => ?_, fun t ht => ?_, fun l hl => ?_, fun p hp => ?_⟩
    · rw [hx _ (by omega) (by omega), hu 0 0 (by omega) (by omega) (by omega)]; exact f1.1
    · rw [hx _ (by omega) (by omega), hu 0 1 (by omega) (by omega) (by omega)]; exact f1.2.1
    · rw [hx _ (by omega) (by omega), hu 0 2 (by omega) (by omega) (by omega)]; exact f1.2.2.1
    · rw [x0, h0]
    · rw [hx _ (by omega) (by omega), hx _ (by omega) (by omega), hx _ (by omega) (by omega), s 6 k (by omega) (by omega) (by omega), s 7 k (by omega) (by omega) (by omega), s 8 k (by omega) (by omega) (by omega)]; exact f2 k hk
    · by_cases e : t = nT v
      · rw [e]
        exact ⟨x1.trans h2.symm, fun i hi => xi i hi⟩
      · have F3 := f3 t (by omega)
        refine ⟨?_, fun i hi => ?_⟩
        · rw [hx _ (by omega) (by omega), hu 11 t (by omega) (by omega) (by omega)]; exact F3.1
        · rw [hx _ (by omega) (by omega), hu 12 _ (by omega) (by omega) (by omega)]; exact F3.2 i hi
    · rw [hx _ (by omega) (by omega), s 2 l (by omega) (by omega) (by omega)]; exact f4 l hl
    · rw [hx _ (by omega) (by omega), s 4 p (by omega) (by omega) (by omega)]; exact f5 p hp
theorem GR_line (C : CI v) (D : DM v d) (F : FM v x) (hb : nN v < 20) {a b l c : Nat} (ha : a < nP v) (hb2 : b < nP v) (hab : a ≠ b) (hl : l < nL v) (hc : 1 ≤ c ∧ c ≤ 8) (h0 : u 0 2 = nI (nN v + 1)) (h4 : u 0 4 = nI (nA v ||| 2 ^ nN v))
    (h6 : u 6 (nN v) = nI a) (h7 : u 7 (nN v) = nI b) (h8 : u 8 (nN v) = nI l) (h9 : u 9 (nN v) = nI c) (h10 : ∀ q, q < c → ∀ w, w < 4 → gdN w (u 10 (32 * nN v + 4 * q + w)))
    (hu : ∀ j i, ¬ (j = 0 ∧ (i = 2 ∨ i = 4)) → ¬ (6 ≤ j ∧ j ≤ 9 ∧ i = nN v) → ¬ (j = 10 ∧ 32 * nN v ≤ i) → u j i = v j i)
    (d22 : d2 (22 + nN v) = 1) (d42 : d2 (42 + nN v) = nI c) (d62 : ∀ q, q < c → ∀ w, w < 4 → d2 (62 + (32 * nN v + 4 * q + w)) = u 10 (32 * nN v + 4 * q + w)) (hd : ∀ q, q ≠ 22 + nN v → q ≠ 42 + nN v → q < 62 + 32 * nN v → d2 q = d q)
    (x2' : x2 2 = nI (nN v + 1)) (x4 : x2 (4 + nN v) = nI a) (x24 : x2 (24 + nN v) = nI b) (x44 : x2 (44 + nN v) = nI l) (hx : ∀ q, q ≠ 2 → q ≠ 4 + nN v → q ≠ 24 + nN v → q ≠ 44 + nN v → x2 q = x q) : CI u ∧ DM u d2 ∧ FM u x2 := by
  have L : nL u = nL v := congrArg Int32.toNatClampNeg (hu 0 0 (by omega) (by omega) (by omega))
  have P : nP u = nP v := congrArg Int32.toNatClampNeg (hu 0 1 (by omega) (by omega) (by omega))
  have T : nT u = nT v := congrArg Int32.toNatClampNeg (hu 0 3 (by omega) (by omega) (by omega))
  have N : nN u = nN v + 1 := nat_of h0 (by omega)
  have hor : nA v ||| 2 ^ nN v < 2 ^ (nN v + 1) := by
    have h1 : nA v < 2 ^ (nN v + 1) := Nat.lt_trans C.b.2.2.2.2 (Nat.pow_lt_pow_right (by decide) (by omega))
    exact Nat.or_lt_two_pow h1 (Nat.pow_lt_pow_right (by decide) (by omega))
  have h31 : (2 : Nat) ^ (nN v + 1) < 2 ^ 31 := Nat.pow_lt_pow_right (by decide) (by omega)
  have A : nA u = nA v ||| 2 ^ nN v := nat_of h4 (by omega)
  have s : ∀ j i, j ≠ 0 → (j < 6 ∨ 10 < j) → u j i = v j i := fun j i q0 q2 => hu j i (by omega) (by omega) (by omega)
  have ol : ∀ k, k < nN v → ∀ j, 6 ≤ j → j ≤ 9 → u j k = v j k := fun k hk j j1 j2 => hu j k (by omega) (by omega) (by omega)
  have ce : ∀ k, k < nN v → ct u k = ct v k := fun k hk => congrArg Int32.toNatClampNeg (ol k hk 9 (by omega) (by omega))
  have cn : ct u (nN v) = c := nat_of h9 (by omega)
  obtain ⟨⟨c1, c2, c3, c4, c5⟩, ⟨b1, b2, b3, b4, b5⟩, cs, cc, ch, cl, ctt⟩ := C
  obtain ⟨f1, f2, f3, f4, f5⟩ := F
  obtain ⟨g1, g2, g3, g4, g5, g6, g7⟩ := D
  have o10 : ∀ k, k < nN v → ∀ q, q < ct v k → ∀ w, w < 4 → u 10 (32 * k + 4 * q + w) = v 10 (32 * k + 4 * q + w) := fun k hk q hq w hw => hu 10 _ (by omega) (by omega) (by
    have := (cl k hk).cnt
    omega)
  refine ⟨⟨⟨?_, ?_, ?_, ?_, ?_⟩, ?_, ?_, fun l hl => ?_, fun p hp => ?_, fun k hk => ?_, fun t ht => ?_⟩, ?_, ?_⟩
  · rw [L, hu 0 0 (by omega) (by omega) (by omega)]; exact c1
  · rw [P, hu 0 1 (by omega) (by omega) (by omega)]; exact c2
  · rw [N]; exact h0
  · rw [T, hu 0 3 (by omega) (by omega) (by omega)]; exact c4
  · rw [A]; exact h4
  · rw [L, P, N, T, A]; exact ⟨b1, b2, by omega, b4, hor⟩
  · rw [s 1 0 (by omega) (by omega), s 1 1 (by omega) (by omega), s 1 2 (by omega) (by omega)]; exact cs
  · rw [s 3 l (by omega) (by omega)]; exact cc l (by omega)
  · rw [s 5 p (by omega) (by omega)]; exact ch p (by omega)
  · by_cases e : k = nN v
    · have e6 : fs u (nN v) = a := nat_of h6 (by omega)
      have e7 : sn u (nN v) = b := nat_of h7 (by omega)
      have e8 : lv u (nN v) = l := nat_of h8 (by omega)
      rw [e]
      unfold LI
      rw [e6, e7, e8, cn]
      refine ⟨h6, h7, by omega, by omega, hab, h8, by omega, h9, hc.1, hc.2, fun q hq => ?_⟩
      have q0 := h10 q hq 0 (by omega)
      have q1 := h10 q hq 1 (by omega)
      have q2 := h10 q hq 2 (by omega)
      have q3 := h10 q hq 3 (by omega)
      exact ⟨q0, q1, q2, q3⟩
    · exact LI_mn (by omega) (by omega) (ol k (by omega)) (o10 k (by omega)) (cl k (by omega))
  · exact TI_mn (by omega) (s 11 t (by omega) (by omega)) (fun i _ => s 12 _ (by omega) (by omega)) (ctt t (by omega))
  · unfold DM
    rw [L, P, N, A]
    refine ⟨fun i hi => ?_, fun l hl => ?_, fun p hp => ?_, fun p hp hp2 => ?_, fun k hk => ?_, fun k hk => ?_, fun k hk q hq w hw => ?_⟩
    · rw [hd _ (by omega) (by omega) (by omega), s 1 i (by omega) (by omega)]; exact g1 i hi
    · rw [hd _ (by omega) (by omega) (by omega), s 3 l (by omega) (by omega)]; exact g2 l (by omega)
    · rw [hd _ (by omega) (by omega) (by omega), s 5 p (by omega) (by omega)]; exact g3 p hp
    · rw [hd _ (by omega) (by omega) (by omega)]; exact g4 p hp hp2
    · rw [Nat.testBit_or]
      by_cases e : k = nN v
      · rw [e, d22, Nat.testBit_two_pow_self, Bool.or_true, if_pos rfl]
      · rw [hd _ (by omega) (by omega) (by omega), g5 k (by omega), Nat.testBit_two_pow_of_ne (by omega), Bool.or_false]
    · by_cases e : k = nN v
      · rw [e, d42, h9]
      · rw [hd _ (by omega) (by omega) (by omega), ol k (by omega) 9 (by omega) (by omega)]; exact g6 k (by omega)
    · by_cases e : k = nN v
      · rw [e] at hq ⊢
        rw [cn] at hq
        exact d62 q hq w hw
      · rw [ce k (by omega)] at hq
        have := (cl k (by omega)).cnt
        rw [hd _ (by omega) (by omega) (by omega), o10 k (by omega) q hq w hw]; exact g7 k (by omega) q hq w hw
  · unfold FM
    rw [L, P, N, T]
    refine ⟨⟨?_, ?_, ?_, ?_⟩, fun k hk => ?_, fun t ht => ?_, fun l hl => ?_, fun p hp => ?_⟩
    · rw [hx _ (by omega) (by omega) (by omega) (by omega), hu 0 0 (by omega) (by omega) (by omega)]; exact f1.1
    · rw [hx _ (by omega) (by omega) (by omega) (by omega), hu 0 1 (by omega) (by omega) (by omega)]; exact f1.2.1
    · rw [x2', h0]
    · rw [hx _ (by omega) (by omega) (by omega) (by omega), hu 0 3 (by omega) (by omega) (by omega)]; exact f1.2.2.2
    · by_cases e : k = nN v
      · rw [e, h6, h7, h8]; exact ⟨x4, x24, x44⟩
      · rw [hx _ (by omega) (by omega) (by omega) (by omega), hx _ (by omega) (by omega) (by omega) (by omega), hx _ (by omega) (by omega) (by omega) (by omega), ol k (by omega) 6 (by omega) (by omega), ol k (by omega) 7 (by omega) (by omega), ol k (by omega) 8 (by omega) (by omega)]; exact f2 k (by omega)
    · have F3 := f3 t ht
      refine ⟨?_, fun i hi => ?_⟩
      · rw [hx _ (by omega) (by omega) (by omega) (by omega), s 11 t (by omega) (by omega)]; exact F3.1
      · rw [hx _ (by omega) (by omega) (by omega) (by omega), s 12 _ (by omega) (by omega)]; exact F3.2 i hi
    · rw [hx _ (by omega) (by omega) (by omega) (by omega), s 2 l (by omega) (by omega)]; exact f4 l hl
    · rw [hx _ (by omega) (by omega) (by omega) (by omega), s 4 p (by omega) (by omega)]; exact f5 p hp
end GR

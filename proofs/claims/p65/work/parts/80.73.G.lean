section KP
variable {α : Type} {f s : Nat → Nat} {A : Nat} {vis : Nat → Nat → α → α} {m n : Nat} {M0 : Nat → Bool}
/-! what holds of the trees -/
/-- as bs3_keep, and the point is in the queue -/
theorem bs3_keepQ {S : BS α} (P : BS α → Prop) (hg : ∀ k, k < m → f k < n ∧ s k < n) (h : BI n M0 S) (hP : ∀ (T : BS α) p k, BI n M0 T → P T → k < m → p < n → (∃ j, j < T.2.2.1 ∧ T.2.1 j = p) → T.1 p = true → brT f s A k p → T.1 (brO f s k p) = false → P (uN T.1 (brO f s k p) true, uN T.2.1 T.2.2.1 (brO f s k p), T.2.2.1 + 1, vis p k T.2.2.2)) (h0 : P S) : ∀ t, P (bs3 f s A vis m S t) := by
  have one : ∀ (T : BS α) (p k : Nat), k < m → p < n → (∃ j, j < T.2.2.1 ∧ T.2.1 j = p) → T.1 p = true → BI n M0 T → P T → P (bs1 f s A vis p k T) := by
    intro T p k hk hp hq hpm hI hT
    unfold bs1
    by_cases c : brT f s A k p ∧ T.1 (brO f s k p) = false
    · rw [if_pos c]; exact hP T p k hI hT hk hp hq hpm c.1 c.2
    · rw [if_neg c]; exact hT
  have two : ∀ (T : BS α) (p : Nat), p < n → (∃ j, j < T.2.2.1 ∧ T.2.1 j = p) → T.1 p = true → BI n M0 T → P T → ∀ k, k ≤ m → P (bs2 f s A vis p T k) := by
    intro T p hp hq hpm hI hT k
    induction k with
    | zero => exact fun _ => hT
    | succ k ih =>
      intro hk
      have L := bs2_le (f := f) (s := s) (A := A) (vis := vis) p T k
      obtain ⟨j, hj, hj2⟩ := hq
      exact one _ p k (by omega) hp ⟨j, Nat.lt_of_lt_of_le hj L.1, (L.2.1 j hj).trans hj2⟩ (L.2.2 p hpm) (bs2_I hg hI k (by omega)) (ih (by omega))
  intro t
  induction t with
  | zero => exact h0
  | succ t ih =>
    rw [bs3_s]
    have I := bs3_I (A := A) (vis := vis) hg h t
    by_cases c : t < (bs3 f s A vis m S t).2.2.1
    · rw [if_pos c]
      exact two _ _ (I.2.1 t c).1 ⟨t, c, rfl⟩ (I.2.1 t c).2 I ih m (Nat.le_refl _)
    · rw [if_neg c]; exact ih
end KP
theorem brO_brO {f s : Nat → Nat} {A k p : Nat} (h : brT f s A k p) (hne : f k ≠ s k) : brT f s A k (brO f s k p) ∧ brO f s k (brO f s k p) = p ∧ brO f s k p ≠ p := by
  rcases h.2 with e | e
  · subst e
    rw [brO_f, brO_s]
    exact ⟨⟨h.1, Or.inr rfl⟩, rfl, fun w => hne w.symm⟩
  · subst e
    rw [brO_s, brO_f]
    exact ⟨⟨h.1, Or.inl rfl⟩, rfl, hne⟩
section TR2
variable {v : Nat → Nat → Int32} {A : Nat}
/-- a tree grows from r: M0, X0 were there before -/
def TG (v : Nat → Nat → Int32) (A r : Nat) (M0 : Nat → Bool) (X0 : TP) (T : BS TP) : Prop := TI0 v A r T.1 T.2.2.2 ∧ (∀ p, T.1 p = true → T.2.2.2.2.2.2.1 p < cntB T.1 (nP v)) ∧ (∀ p, T.1 p = true → M0 p = true ∨ T.2.2.2.1 p = r) ∧ (∀ p, M0 p = true → T.2.2.2.1 p = X0.1 p) ∧ ∀ j, j < T.2.2.1 → T.2.2.2.1 (T.2.1 j) = r
theorem b_keep {x : Int32} {k q : Nat} (hk : k < 32) (h : bt x q = true) : bt (x ||| ((1 : Int32) <<< (nI k &&& 31))) q = true := by rw [b_or, h, Bool.true_or]
theorem TG_step (C : CI v) {r : Nat} {M0 : Nat → Bool} {X0 : TP} (hr0 : ∀ p, p < r → M0 p = true) {T : BS TP} {p k : Nat} (I : BI (nP v) M0 T) (H : TG v A r M0 X0 T) (hk : k < nN v) (hq : ∃ j, j < T.2.2.1 ∧ T.2.1 j = p) (hpm : T.1 p = true) (ht : brT (fs v) (sn v) A k p) (ho : T.1 (brO (fs v) (sn v) k p) = false) : TG v A r M0 X0 (uN T.1 (brO (fs v) (sn v) k p) true, uN T.2.1 T.2.2.1 (brO (fs v) (sn v) k p), T.2.2.1 + 1, tvis v r p k T.2.2.2) := by
  have hb := C.b
  obtain ⟨H1, H2, H3, H4, H5⟩ := H
  obtain ⟨o, hoe⟩ : ∃ o, o = brO (fs v) (sn v) k p := ⟨_, rfl⟩
  have hol : o < nP v := by rw [hoe]; exact brO_lt (C.g k hk)
  have hbb := brO_brO ht (C.line hk).2.2.2.2.1
  rw [← hoe] at ho hbb ⊢
  have hrp : T.2.2.2.1 p = r := by
    obtain ⟨j, hj, e⟩ := hq
    rw [← e]; exact H5 j hj
  have hro : r ≤ o := Nat.not_lt.mp (fun w => by
    have := I.2.2.2 o (hr0 o w)
    rw [ho] at this; cases this)
  have P1 := H1 p hpm
  have hrm : T.1 r = true := by rw [← hrp]; exact P1.2.2.2.1
  have hrne : r ≠ o := fun w => by rw [w, ho] at hrm; cases hrm
  have mk : ∀ q, T.1 q = true → q ≠ o := fun q h w => by rw [w, ho] at h; cases h
  have up : ∀ q, T.1 q = true → uN T.1 o true q = true := fun q h => by rw [uN_n (mk q h)]; exact h
  have hoO : oO v k p = o := hoe.symm
  refine ⟨fun q hq => ?_, fun q hq => ?_, fun q hq => ?_, fun q hq => ?_, fun j hj => ?_⟩
  · have hq2 : uN T.1 o true q = true := hq
    show q < nP v ∧ uN T.2.2.2.1 (oO v k p) r q ≤ r ∧ uN T.2.2.2.1 (oO v k p) r q ≤ q ∧ uN T.1 o true (uN T.2.2.2.1 (oO v k p) r q) = true ∧ uN T.2.2.2.1 (oO v k p) r (uN T.2.2.2.1 (oO v k p) r q) = uN T.2.2.2.1 (oO v k p) r q ∧ ((uN T.2.2.2.1 (oO v k p) r q = q ∧ uN T.2.2.2.2.1 (oO v k p) (nI k) q = -1 ∧ uN T.2.2.2.2.2.2.1 (oO v k p) (T.2.2.2.2.2.2.1 p + 1) q = 0) ∨ (uN T.2.2.2.1 (oO v k p) r q ≠ q ∧ ∃ l, l < nN v ∧ uN T.2.2.2.2.1 (oO v k p) (nI k) q = nI l ∧ brT (fs v) (sn v) A l q ∧ uN T.2.2.2.2.2.1 (oO v k p) p q = oO v l q ∧ uN T.1 o true (oO v l q) = true ∧ uN T.2.2.2.1 (oO v k p) r (oO v l q) = uN T.2.2.2.1 (oO v k p) r q ∧ uN T.2.2.2.2.2.2.1 (oO v k p) (T.2.2.2.2.2.2.1 p + 1) q = uN T.2.2.2.2.2.2.1 (oO v k p) (T.2.2.2.2.2.2.1 p + 1) (oO v l q) + 1 ∧ bt (T.2.2.2.2.2.2.2 ||| ((1 : Int32) <<< (nI k &&& 31))) l = true))
    rw [hoO]
    by_cases e : q = o
    · rw [e, uN_s, uN_s, uN_s, uN_s, show uN T.2.2.2.1 o r r = T.2.2.2.1 r from uN_n hrne]
      refine ⟨hol, Nat.le_refl _, hro, up r hrm, ?_, Or.inr ⟨hrne, k, hk, rfl, hbb.1, hbb.2.1.symm, ?_, ?_, ?_, ?_⟩⟩
      · have q := P1.2.2.2.2.1
        rw [hrp] at q
        exact q
      · rw [show oO v k o = p from hbb.2.1]; exact up p hpm
      · rw [show oO v k o = p from hbb.2.1, uN_n (mk p hpm)]; exact hrp
      · rw [show oO v k o = p from hbb.2.1, uN_n (mk p hpm)]
      · rw [b_or, b_one k (by omega) k (by omega), decide_eq_true rfl, Bool.or_true]
    · rw [uN_n e] at hq2
      have Q := H1 q hq2
      rw [uN_n e, uN_n e, uN_n e, uN_n e, show uN T.2.2.2.1 o r (T.2.2.2.1 q) = T.2.2.2.1 (T.2.2.2.1 q) from uN_n (mk _ Q.2.2.2.1)]
      refine ⟨Q.1, Q.2.1, Q.2.2.1, up _ Q.2.2.2.1, Q.2.2.2.2.1, ?_⟩
      rcases Q.2.2.2.2.2 with h | ⟨h, l, l1, l2, l3, l4, l5, l6, l7, l8⟩
      · exact Or.inl h
      · refine Or.inr ⟨h, l, l1, l2, l3, l4, up _ l5, ?_, ?_, b_keep (by omega) l8⟩
        · rw [uN_n (mk _ l5)]; exact l6
        · rw [uN_n (mk _ l5)]; exact l7
  · have hq2 : uN T.1 o true q = true := hq
    show uN T.2.2.2.2.2.2.1 (oO v k p) (T.2.2.2.2.2.2.1 p + 1) q < cntB (uN T.1 o true) (nP v)
    rw [hoO, cntB_up ho hol]
    by_cases e : q = o
    · rw [e, uN_s]
      have := H2 p hpm
      omega
    · rw [uN_n e] at hq2 ⊢
      have := H2 q hq2
      omega
  · have hq2 : uN T.1 o true q = true := hq
    show M0 q = true ∨ uN T.2.2.2.1 (oO v k p) r q = r
    rw [hoO]
    by_cases e : q = o
    · rw [e, uN_s]; exact Or.inr rfl
    · rw [uN_n e] at hq2 ⊢; exact H3 q hq2
  · show uN T.2.2.2.1 (oO v k p) r q = X0.1 q
    rw [hoO, uN_n (mk q (I.2.2.2 q hq))]; exact H4 q hq
  · show uN T.2.2.2.1 (oO v k p) r (uN T.2.1 T.2.2.1 o j) = r
    rw [hoO]
    by_cases e : j = T.2.2.1
    · rw [e, uN_s, uN_s]
    · have hj2 : j < T.2.2.1 := by have : j < T.2.2.1 + 1 := hj; omega
      rw [uN_n e, uN_n (mk _ (I.2.1 j hj2).2)]; exact H5 j hj2
/-- the trees of roots below r -/
def TA (v : Nat → Nat → Int32) (A r : Nat) (M : Nat → Bool) (X : TP) : Prop := (∀ p, p < r → M p = true) ∧ TI0 v A r M X ∧ (∀ p, M p = true → X.2.2.2.1 p < cntB M (nP v)) ∧ (∀ k, k < nN v → A.testBit k = true → M (fs v k) = M (sn v k)) ∧ ∀ k, k < nN v → A.testBit k = true → M (fs v k) = true → X.1 (fs v k) = X.1 (sn v k)
theorem TG_0 (C : CI v) {r : Nat} (hr : r < nP v) {M : Nat → Bool} {X : TP} (hM : M r = false) (H : TA v A r M X) : TG v A r M X (tst M X r) := by
  obtain ⟨-, H1, H2, -, -⟩ := H
  have mk : ∀ q, M q = true → q ≠ r := fun q h w => by rw [w, hM] at h; cases h
  have up : ∀ q, M q = true → uN M r true q = true := fun q h => by rw [uN_n (mk q h)]; exact h
  refine ⟨fun q hq => ?_, fun q hq => ?_, fun q hq => ?_, fun q hq => ?_, fun j hj => ?_⟩
  · have hq2 : uN M r true q = true := hq
    show q < nP v ∧ uN X.1 r r q ≤ r ∧ uN X.1 r r q ≤ q ∧ uN M r true (uN X.1 r r q) = true ∧ uN X.1 r r (uN X.1 r r q) = uN X.1 r r q ∧ ((uN X.1 r r q = q ∧ uN X.2.1 r (-1) q = -1 ∧ uN X.2.2.2.1 r 0 q = 0) ∨ (uN X.1 r r q ≠ q ∧ ∃ l, l < nN v ∧ uN X.2.1 r (-1) q = nI l ∧ brT (fs v) (sn v) A l q ∧ uN X.2.2.1 r r q = oO v l q ∧ uN M r true (oO v l q) = true ∧ uN X.1 r r (oO v l q) = uN X.1 r r q ∧ uN X.2.2.2.1 r 0 q = uN X.2.2.2.1 r 0 (oO v l q) + 1 ∧ bt X.2.2.2.2 l = true))
    by_cases e : q = r
    · rw [e, uN_s, uN_s, uN_s, uN_s, uN_s]
      exact ⟨hr, Nat.le_refl _, Nat.le_refl _, rfl, rfl, Or.inl ⟨rfl, rfl, rfl⟩⟩
    · rw [uN_n e] at hq2
      have Q := H1 q hq2
      rw [uN_n e, uN_n e, uN_n e, uN_n e, show uN X.1 r r (X.1 q) = X.1 (X.1 q) from uN_n (mk _ Q.2.2.2.1)]
      refine ⟨Q.1, Q.2.1, Q.2.2.1, up _ Q.2.2.2.1, Q.2.2.2.2.1, ?_⟩
      rcases Q.2.2.2.2.2 with h | ⟨h, l, l1, l2, l3, l4, l5, l6, l7, l8⟩
      · exact Or.inl h
      · refine Or.inr ⟨h, l, l1, l2, l3, l4, up _ l5, ?_, ?_, l8⟩
        · rw [uN_n (mk _ l5)]; exact l6
        · rw [uN_n (mk _ l5)]; exact l7
  · have hq2 : uN M r true q = true := hq
    show uN X.2.2.2.1 r 0 q < cntB (uN M r true) (nP v)
    rw [cntB_up hM hr]
    by_cases e : q = r
    · rw [e, uN_s]; omega
    · rw [uN_n e] at hq2 ⊢
      have := H2 q hq2
      omega
  · have hq2 : uN M r true q = true := hq
    show M q = true ∨ uN X.1 r r q = r
    by_cases e : q = r
    · rw [e, uN_s]; exact Or.inr rfl
    · rw [uN_n e] at hq2; exact Or.inl hq2
  · exact uN_n (mk q hq)
  · exact uN_s
theorem tbs_G (C : CI v) {r : Nat} (hr : r < nP v) {M : Nat → Bool} {X : TP} (hM : M r = false) (H : TA v A r M X) (t : Nat) : TG v A r M X (tbs v A M X r t) :=
  bs3_keepQ (TG v A r M X) C.g (tst_I hr hM) (fun T p k I G hk hp hq hpm ht ho => TG_step C H.1 I G hk hq hpm ht ho) (TG_0 C hr hM H) t
theorem TA_up {r : Nat} {M : Nat → Bool} {X : TP} (hM : M r = true) (H : TA v A r M X) : TA v A (r + 1) M X := by
  refine ⟨fun p hp => ?_, fun p hp => ?_, H.2.2⟩
  · by_cases e : p = r
    · rw [e]; exact hM
    · exact H.1 p (by omega)
  · have := H.2.1 p hp
    exact ⟨this.1, by omega, this.2.2⟩
theorem TA_next (C : CI v) {r : Nat} (hr : r < nP v) {M : Nat → Bool} {X : TP} (hM : M r = false) (H : TA v A r M X) {N : Nat} (hN : nP v ≤ N) : TA v A (r + 1) (tbs v A M X r N).1 (tbs v A M X r N).2.2.2 := by
  have G := tbs_G C hr hM H N
  have I := tbs_I (A := A) (X := X) C hr hM N
  have L : BLe (tst M X r) (tbs v A M X r N) := bs3_le (f := fs v) (s := sn v) (A := A) (vis := tvis v r) (m := nN v) (tst M X r) N
  have cl : ∀ k, k < nN v → A.testBit k = true → (tbs v A M X r N).1 (fs v k) = (tbs v A M X r N).1 (sn v k) := bs3_closed C.g (tst_I hr hM) H.2.2.2.1 hN
  generalize tbs v A M X r N = T at *
  obtain ⟨G1, G2, G3, G4, G5⟩ := G
  refine ⟨fun p hp => ?_, fun p hp => ?_, G2, cl, fun k hk hA hf => ?_⟩
  · by_cases e : p = r
    · rw [e]; exact L.2.2 r uN_s
    · exact I.2.2.2 p (H.1 p (by omega))
  · have := G1 p hp
    exact ⟨this.1, by omega, this.2.2⟩
  · have c0 := H.2.2.2.1 k hk hA
    have hs := (cl k hk hA).symm.trans hf
    cases e : M (fs v k) with
    | true =>
      rw [G4 _ e, G4 _ (c0.symm.trans e)]
      exact H.2.2.2.2 k hk hA e
    | false =>
      have e2 : M (sn v k) = false := c0.symm.trans e
      rw [(G3 _ hf).resolve_left (by rw [e]; decide), (G3 _ hs).resolve_left (by rw [e2]; decide)]
theorem tgr_s (r : Nat) : tgr v A (r + 1) = if (tgr v A r).1 r = true then tgr v A r else ((tbs v A (tgr v A r).1 (tgr v A r).2.1 r (nP v)).1, (tbs v A (tgr v A r).1 (tgr v A r).2.1 r (nP v)).2.2.2, (tgr v A r).2.2 + 1) := rfl
theorem tgr_A (C : CI v) : ∀ r, r ≤ nP v → TA v A r (tgr v A r).1 (tgr v A r).2.1
  | 0, _ => ⟨fun p hp => absurd hp (Nat.not_lt_zero _), fun p hp => absurd (show false = true from hp) (by decide), fun p hp => absurd (show false = true from hp) (by decide), fun _ _ _ => rfl, fun k _ _ h => absurd (show false = true from h) (by decide)⟩
  | r + 1, hr => by
    have H := tgr_A C r (by omega)
    have hb := C.b
    rw [tgr_s]
    by_cases c : (tgr v A r).1 r = true
    · rw [if_pos c]; exact TA_up c H
    · rw [if_neg c]
      have := TA_next C (by omega) (Bool.eq_false_iff.mpr c) H (Nat.le_refl _)
      exact this
end TR2

section SW
variable {v : Nat → Nat → Int32}
/-! shortest ways -/
def rlx (D : Nat → Option Nat) (p q l : Nat) : Bool × (Nat → Option Nat) := match D p with
  | none => (false, D)
  | some a => match D q with
    | none => (true, uN D q (some (a + l)))
    | some b => if b ≤ a + l then (false, D) else (true, uN D q (some (a + l)))
def pln (v : Nat → Nat → Int32) (S : Bool × (Nat → Option Nat)) (k : Nat) : Bool × (Nat → Option Nat) := if (nA v).testBit k = true then (S.1 || (rlx S.2 (fs v k) (sn v k) (ln v k)).1 || (rlx (rlx S.2 (fs v k) (sn v k) (ln v k)).2 (sn v k) (fs v k) (ln v k)).1, (rlx (rlx S.2 (fs v k) (sn v k) (ln v k)).2 (sn v k) (fs v k) (ln v k)).2) else S
def pas (v : Nat → Nat → Int32) (D : Nat → Option Nat) : Nat → Bool × (Nat → Option Nat)
  | 0 => (false, D)
  | k + 1 => pln v (pas v D k) k
def wkn (v : Nat → Nat → Int32) (s : Nat) : Nat → Nat → Nat → Prop
  | 0, q, d => q = s ∧ d = 0
  | i + 1, q, d => ∃ k, k < nN v ∧ tT v k q ∧ ∃ e, wkn v s i (oO v k q) e ∧ d = e + ln v k
def wk (v : Nat → Nat → Int32) (s q d : Nat) : Prop := ∃ i, wkn v s i q d
def isF (v : Nat → Nat → Int32) (s q d : Nat) : Prop := wk v s q d ∧ ∀ e, wk v s q e → d ≤ e
/-- what the distances keep: sound, small, the start is 0 -/
def DI (v : Nat → Nat → Int32) (s : Nat) (D : Nat → Option Nat) : Prop := D s = some 0 ∧ (∀ q d, D q = some d → q < nP v ∧ wk v s q d ∧ d ≤ 1600 * cntB (fun q => (D q).isSome) (nP v))
def DLe (D E : Nat → Option Nat) : Prop := ∀ q d, D q = some d → ∃ e, E q = some e ∧ e ≤ d
theorem DLe.rf (D : Nat → Option Nat) : DLe D D := fun _ d h => ⟨d, h, Nat.le_refl _⟩
theorem DLe.tr {D E G : Nat → Option Nat} (h : DLe D E) (g : DLe E G) : DLe D G := fun q d hd => by
  obtain ⟨e, he, hl⟩ := h q d hd
  obtain ⟨f, hf, hm⟩ := g q e he
  exact ⟨f, hf, Nat.le_trans hm hl⟩
theorem cntB_mo {M N : Nat → Bool} : ∀ n, (∀ i, i < n → M i = true → N i = true) → cntB M n ≤ cntB N n
  | 0, _ => Nat.le_refl _
  | n + 1, h => by
    have ih := cntB_mo n (fun i hi => h i (by omega))
    show cntB M n + (if M n = true then 1 else 0) ≤ cntB N n + (if N n = true then 1 else 0)
    by_cases c : M n = true
    · rw [if_pos c, if_pos (h n (by omega) c)]; omega
    · rw [if_neg c]; omega
theorem cntB_st {M N : Nat → Bool} {j : Nat} (hM : M j = false) (hN : N j = true) : ∀ n, j < n → (∀ i, i < n → M i = true → N i = true) → cntB M n < cntB N n
  | 0, hj, _ => absurd hj (Nat.not_lt_zero _)
  | n + 1, hj, h => by
    show cntB M n + (if M n = true then 1 else 0) < cntB N n + (if N n = true then 1 else 0)
    by_cases e : j = n
    · subst e
      have := cntB_mo j (fun i hi => h i (by omega))
      rw [if_neg (by rw [hM]; decide), if_pos hN]; omega
    · have ih := cntB_st hM hN n (by omega) (fun i hi => h i (by omega))
      by_cases c : M n = true
      · rw [if_pos c, if_pos (h n (by omega) c)]; omega
      · rw [if_neg c]; omega
theorem rlx_n {D : Nat → Option Nat} {p q l : Nat} (h : D p = none) : rlx D p q l = (false, D) := by
  unfold rlx
  rw [h]
theorem rlx_s {D : Nat → Option Nat} {p q l a : Nat} (h : D p = some a) (e : D q = none) : rlx D p q l = (true, uN D q (some (a + l))) := by
  unfold rlx
  rw [h, e]
theorem rlx_b {D : Nat → Option Nat} {p q l a b : Nat} (h : D p = some a) (e : D q = some b) : rlx D p q l = if b ≤ a + l then (false, D) else (true, uN D q (some (a + l))) := by
  unfold rlx
  rw [h, e]
/-- one relaxation along line k from p to q -/
theorem rlx_I {s p q k : Nat} {D : Nat → Option Nat} (C : CI v) (hk : k < nN v) (ht : tT v k q) (ho : oO v k q = p) (hq : q < nP v) (I : DI v s D) : DI v s (rlx D p q (ln v k)).2 ∧ DLe D (rlx D p q (ln v k)).2 ∧ (∀ a, D p = some a → ∃ b, (rlx D p q (ln v k)).2 q = some b ∧ b ≤ a + ln v k) ∧ ((rlx D p q (ln v k)).1 = false → (rlx D p q (ln v k)).2 = D ∧ ∀ a, D p = some a → ∃ b, D q = some b ∧ b ≤ a + ln v k) := by
  have hl := (C.line hk).lnb
  cases e1 : D p with
  | none =>
    rw [rlx_n e1]
    exact ⟨I, DLe.rf D, fun a h => (nomatch h), fun _ => ⟨rfl, fun a h => (nomatch h)⟩⟩
  | some a =>
    have wka := I.2 p a e1
    have wkq : wk v s q (a + ln v k) := by
      obtain ⟨i, hi⟩ := wka.2.1
      exact ⟨i + 1, k, hk, ht, a, by rw [ho]; exact hi, rfl⟩
    have upd : ∀ h : (D q = none ∨ ∃ b, D q = some b ∧ ¬ b ≤ a + ln v k), DI v s (uN D q (some (a + ln v k))) ∧ DLe D (uN D q (some (a + ln v k))) := fun h => by
      have le : DLe D (uN D q (some (a + ln v k))) := fun r d hd => by
        by_cases e : r = q
        · subst e
          rcases h with h | ⟨b, hb, hn⟩
          · rw [h] at hd; cases hd
          · rw [hb] at hd
            cases hd
            exact ⟨_, uN_s, by omega⟩
        · exact ⟨d, (uN_n e).trans hd, Nat.le_refl _⟩
      have cm : cntB (fun r => (D r).isSome) (nP v) ≤ cntB (fun r => (uN D q (some (a + ln v k)) r).isSome) (nP v) := cntB_mo _ (fun r _ hr => by
        cases f : D r with
        | none => rw [f] at hr; cases hr
        | some d =>
          obtain ⟨g, hg, -⟩ := le r d f
          rw [hg]; rfl)
      refine ⟨⟨?_, fun r d hd => ?_⟩, le⟩
      · by_cases e : s = q
        · subst e
          rcases h with h | ⟨b, hb, hn⟩
          · rw [I.1] at h; cases h
          · rw [I.1] at hb; cases hb; omega
        · rw [uN_n e]; exact I.1
      · by_cases e : r = q
        · subst e
          rw [uN_s] at hd
          cases hd
          refine ⟨hq, wkq, ?_⟩
          rcases h with h | ⟨b, hb, hn⟩
          · have := cntB_st (M := fun r => (D r).isSome) (N := fun x => (uN D r (some (a + ln v k)) x).isSome) (j := r) (by rw [h]; rfl) (by rw [uN_s]; rfl) (nP v) hq (fun x _ hx => by
              cases f : D x with
              | none => rw [f] at hx; cases hx
              | some d =>
                obtain ⟨g, hg, -⟩ := le x d f
                rw [hg]; rfl)
            have := wka.2.2
            omega
          · have := (I.2 r b hb).2.2
            omega
        · rw [uN_n e] at hd
          have := I.2 r d hd
          exact ⟨this.1, this.2.1, by omega⟩
    cases e2 : D q with
    | none =>
      obtain ⟨u1, u2⟩ := upd (Or.inl e2)
      rw [rlx_s e1 e2]
      refine ⟨u1, u2, fun x hx => ?_, fun h => nomatch h⟩
      cases hx
      exact ⟨_, uN_s, Nat.le_refl _⟩
    | some b =>
      rw [rlx_b e1 e2]
      by_cases c : b ≤ a + ln v k
      · rw [if_pos c]
        refine ⟨I, DLe.rf D, fun x hx => ?_, fun _ => ⟨rfl, fun x hx => ?_⟩⟩
        · cases hx; exact ⟨b, e2, c⟩
        · cases hx; exact ⟨b, rfl, c⟩
      · rw [if_neg c]
        obtain ⟨u1, u2⟩ := upd (Or.inr ⟨b, e2, c⟩)
        refine ⟨u1, u2, fun x hx => ?_, fun h => nomatch h⟩
        cases hx
        exact ⟨_, uN_s, Nat.le_refl _⟩
/-- what a line's both relaxations give -/
def rlk (v : Nat → Nat → Int32) (D E : Nat → Option Nat) (k : Nat) : Prop := ∀ p q, (p = fs v k ∧ q = sn v k) ∨ (p = sn v k ∧ q = fs v k) → ∀ a, D p = some a → ∃ b, E q = some b ∧ b ≤ a + ln v k
theorem pln_I {s k : Nat} {S : Bool × (Nat → Option Nat)} (C : CI v) (hk : k < nN v) (I : DI v s S.2) : DI v s (pln v S k).2 ∧ DLe S.2 (pln v S k).2 ∧ ((nA v).testBit k = true → rlk v S.2 (pln v S k).2 k) ∧ ((pln v S k).1 = false → S.1 = false ∧ (pln v S k).2 = S.2 ∧ ((nA v).testBit k = true → rlk v S.2 S.2 k)) := by
  have hg := C.g k hk
  unfold pln
  by_cases c : (nA v).testBit k = true
  · rw [if_pos c]
    obtain ⟨a1, a2, a3, a4⟩ := rlx_I (p := fs v k) (q := sn v k) (D := S.2) C hk ⟨c, Or.inr rfl⟩ brO_s hg.2 I
    obtain ⟨b1, b2, b3, b4⟩ := rlx_I (p := sn v k) (q := fs v k) (D := (rlx S.2 (fs v k) (sn v k) (ln v k)).2) C hk ⟨c, Or.inl rfl⟩ brO_f hg.1 a1
    refine ⟨b1, a2.tr b2, fun _ p q hpq a ha => ?_, fun h => ?_⟩
    · rcases hpq with ⟨e1, e2⟩ | ⟨e1, e2⟩
      · subst e1 e2
        obtain ⟨b, hb, hl⟩ := a3 a ha
        obtain ⟨b', hb', hl'⟩ := b2 _ b hb
        exact ⟨b', hb', by omega⟩
      · subst e1 e2
        obtain ⟨a', ha', hl'⟩ := a2 _ a ha
        obtain ⟨b, hb, hl⟩ := b3 a' ha'
        exact ⟨b, hb, by omega⟩
    · have h : (S.1 || (rlx S.2 (fs v k) (sn v k) (ln v k)).1 || (rlx (rlx S.2 (fs v k) (sn v k) (ln v k)).2 (sn v k) (fs v k) (ln v k)).1) = false := h
      rw [Bool.or_eq_false_iff, Bool.or_eq_false_iff] at h
      obtain ⟨⟨h1, h2⟩, h3⟩ := h
      obtain ⟨c1, c2⟩ := a4 h2
      obtain ⟨d1, d2⟩ := b4 h3
      have e : (rlx (rlx S.2 (fs v k) (sn v k) (ln v k)).2 (sn v k) (fs v k) (ln v k)).2 = S.2 := d1.trans c1
      refine ⟨h1, e, fun _ p q hpq a ha => ?_⟩
      rw [c1] at d2
      rcases hpq with ⟨e1, e2⟩ | ⟨e1, e2⟩
      · subst e1 e2; exact c2 a ha
      · subst e1 e2; exact d2 a ha
  · rw [if_neg c]
    exact ⟨I, DLe.rf _, fun h => absurd h c, fun h => ⟨h, rfl, fun h => absurd h c⟩⟩
theorem pas_I {s : Nat} {D : Nat → Option Nat} (C : CI v) (I : DI v s D) : ∀ k, k ≤ nN v → DI v s (pas v D k).2 ∧ DLe D (pas v D k).2 ∧ (∀ j, j < k → (nA v).testBit j = true → rlk v D (pas v D k).2 j) ∧ ((pas v D k).1 = false → (pas v D k).2 = D ∧ ∀ j, j < k → (nA v).testBit j = true → rlk v D D j)
  | 0, _ => ⟨I, DLe.rf D, fun j hj => absurd hj (Nat.not_lt_zero _), fun _ => ⟨rfl, fun j hj => absurd hj (Nat.not_lt_zero _)⟩⟩
  | k + 1, hk => by
    obtain ⟨a1, a2, a3, a4⟩ := pas_I C I k (by omega)
    obtain ⟨b1, b2, b3, b4⟩ := pln_I (S := pas v D k) C (show k < nN v by omega) a1
    refine ⟨b1, a2.tr b2, fun j hj hA p q hpq a ha => ?_, fun h => ?_⟩
    · by_cases e : j = k
      · subst e
        obtain ⟨a', ha', hl'⟩ := a2 p a ha
        obtain ⟨b, hb, hl⟩ := b3 hA p q hpq a' ha'
        exact ⟨b, hb, by omega⟩
      · obtain ⟨b, hb, hl⟩ := a3 j (by omega) hA p q hpq a ha
        obtain ⟨b', hb', hl'⟩ := b2 q b hb
        exact ⟨b', hb', by omega⟩
    · obtain ⟨h1, h2, h3⟩ := b4 h
      obtain ⟨g1, g2⟩ := a4 h1
      have e : (pln v (pas v D k) k).2 = D := h2.trans g1
      refine ⟨e, fun j hj hA => ?_⟩
      by_cases f : j = k
      · subst f
        have := h3 hA
        rw [g1] at this
        exact this
      · exact g2 j (by omega) hA
theorem isF_0 {s : Nat} : isF v s s 0 := ⟨⟨0, rfl, rfl⟩, fun _ _ => Nat.zero_le _⟩
theorem isF_p {s q d : Nat} (h : isF v s q d) (hq : q ≠ s) : ∃ k, k < nN v ∧ tT v k q ∧ ∃ e, isF v s (oO v k q) e ∧ d = e + ln v k := by
  obtain ⟨⟨i, hi⟩, hm⟩ := h
  cases i with
  | zero => exact absurd hi.1 hq
  | succ i =>
    obtain ⟨k, hk, ht, e, he, hd⟩ := hi
    refine ⟨k, hk, ht, e, ⟨⟨i, he⟩, fun f hf => ?_⟩, hd⟩
    obtain ⟨j, hj⟩ := hf
    have := hm (f + ln v k) ⟨j + 1, k, hk, ht, f, hj, rfl⟩
    omega
theorem isF_e {s q d : Nat} (h : wk v s q d) : ∃ e, isF v s q e := by
  obtain ⟨e, he, hl⟩ := pk_least (fun d => wk v s q d) ⟨d, h⟩
  exact ⟨e, he, fun f hf => Nat.not_lt.mp (fun w => hl f w hf)⟩
def stl (v : Nat → Nat → Int32) (s : Nat) (D : Nat → Option Nat) (q : Nat) : Prop := ∃ d, D q = some d ∧ isF v s q d
/-- a point not settled, next to a settled one -/
theorem stl_n {s : Nat} {D : Nat → Option Nat} (C : CI v) (I : DI v s D) {q0 d0 : Nat} (hw : wk v s q0 d0) (hn : ¬ stl v s D q0) : ∃ k q e, k < nN v ∧ tT v k q ∧ isF v s q (e + ln v k) ∧ ¬ stl v s D q ∧ D (oO v k q) = some e := by
  obtain ⟨e0, he0⟩ := isF_e hw
  obtain ⟨d, ⟨q, hq, hqn⟩, hl⟩ := pk_least (fun d => ∃ q, isF v s q d ∧ ¬ stl v s D q) ⟨e0, q0, he0, hn⟩
  have hqs : q ≠ s := fun e => by
    subst e
    exact hqn ⟨0, I.1, isF_0⟩
  obtain ⟨k, hk, ht, e, he, hd⟩ := isF_p hq hqs
  have hlb := (C.line hk).lnb
  have hs : stl v s D (oO v k q) := Classical.byContradiction (fun w => hl e (by omega) ⟨_, he, w⟩)
  obtain ⟨f, hf, hff⟩ := hs
  have : f = e := Nat.le_antisymm (hff.2 e he.1) (he.2 f hff.1)
  subst this
  exact ⟨k, q, f, hk, ht, by rw [← hd]; exact hq, hqn, hf⟩
theorem ends {k q : Nat} (ht : tT v k q) : (oO v k q = fs v k ∧ q = sn v k) ∨ (oO v k q = sn v k ∧ q = fs v k) := by
  rcases ht.2 with e | e
  · subst e; exact Or.inr ⟨brO_f, rfl⟩
  · subst e; exact Or.inl ⟨brO_s, rfl⟩
/-- all is settled where nothing changes -/
theorem stl_all {s : Nat} {D : Nat → Option Nat} (C : CI v) (I : DI v s D) (h : ∀ j, j < nN v → (nA v).testBit j = true → rlk v D D j) : ∀ q d, wk v s q d → stl v s D q := by
  intro q0 d0 hw
  refine Classical.byContradiction (fun hn => ?_)
  obtain ⟨k, q, e, hk, ht, hF, hqn, hD⟩ := stl_n C I hw hn
  obtain ⟨b, hb, hl⟩ := h k hk ht.1 _ _ (ends ht) e hD
  have := hF.2 b (I.2 q b hb).2.1
  have e2 : b = e + ln v k := by omega
  subst e2
  exact hqn ⟨_, hb, hF⟩
/-- what is settled stays so, and does not change -/
theorem stl_k {s q : Nat} {D E : Nat → Option Nat} (h : DLe D E) (I : DI v s E) (hs : stl v s D q) : stl v s E q := by
  obtain ⟨d, hd, hF⟩ := hs
  obtain ⟨e, he, hl⟩ := h q d hd
  have := hF.2 e (I.2 q e he).2.1
  have : e = d := by omega
  subst this
  exact ⟨e, he, hF⟩
def alS (v : Nat → Nat → Int32) (s : Nat) (D : Nat → Option Nat) : Prop := ∀ q d, wk v s q d → stl v s D q
theorem alS_u {s : Nat} {D E : Nat → Option Nat} (I : DI v s D) (J : DI v s E) (h : alS v s D) (g : alS v s E) : D = E := by
  funext q
  cases e : D q with
  | none =>
    cases f : E q with
    | none => rfl
    | some b =>
      obtain ⟨d, hd, -⟩ := h q b (J.2 q b f).2.1
      rw [e] at hd; cases hd
  | some a =>
    obtain ⟨d, hd, hF⟩ := h q a (I.2 q a e).2.1
    obtain ⟨d2, hd2, hF2⟩ := g q a (I.2 q a e).2.1
    rw [e] at hd
    cases hd
    rw [hd2]
    exact congrArg some (Nat.le_antisymm (hF.2 _ hF2.1) (hF2.2 _ hF.1))
theorem pas_st {s : Nat} {D : Nat → Option Nat} (C : CI v) (I : DI v s D) (h : alS v s D) : (pas v D (nN v)).2 = D := by
  obtain ⟨a1, a2, a3, a4⟩ := pas_I C I (nN v) (Nat.le_refl _)
  exact (alS_u I a1 h (fun q d hw => stl_k a2 a1 (h q d hw))).symm
end SW

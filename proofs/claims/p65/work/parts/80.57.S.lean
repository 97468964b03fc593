/-! a search from point to point, as both sides do it -/
abbrev brT (f s : Nat → Nat) (A k p : Nat) : Prop := A.testBit k = true ∧ (f k = p ∨ s k = p)
def brO (f s : Nat → Nat) (k p : Nat) : Nat := if f k = p then s k else f k
theorem brO_f {f s : Nat → Nat} {k : Nat} : brO f s k (f k) = s k := if_pos rfl
theorem brO_s {f s : Nat → Nat} {k : Nat} : brO f s k (s k) = f k := by
  unfold brO
  by_cases c : f k = s k
  · rw [if_pos c, c]
  · rw [if_neg c]
theorem brO_lt {f s : Nat → Nat} {k p n : Nat} (h : f k < n ∧ s k < n) : brO f s k p < n := by
  unfold brO
  split
  · exact h.2
  · exact h.1
def uN {β : Type} (g : Nat → β) (i : Nat) (x : β) : Nat → β := fun j => if j = i then x else g j
theorem uN_s {β : Type} {g : Nat → β} {i : Nat} {x : β} : uN g i x i = x := if_pos rfl
theorem uN_n {β : Type} {g : Nat → β} {i j : Nat} {x : β} (h : j ≠ i) : uN g i x j = g j := if_neg h
def cntB (M : Nat → Bool) : Nat → Nat
  | 0 => 0
  | n + 1 => cntB M n + (if M n = true then 1 else 0)
theorem cntB_le (M : Nat → Bool) : ∀ n, cntB M n ≤ n
  | 0 => Nat.le_refl _
  | n + 1 => by
    have h := cntB_le M n
    show cntB M n + _ ≤ _
    split <;> omega
theorem cntB_out {M : Nat → Bool} {i : Nat} {x : Bool} : ∀ {n}, n ≤ i → cntB (uN M i x) n = cntB M n
  | 0, _ => rfl
  | n + 1, h => by
    show cntB (uN M i x) n + _ = cntB M n + _
    rw [cntB_out (by omega), uN_n (show n ≠ i by omega)]
theorem cntB_up {M : Nat → Bool} {i : Nat} (h0 : M i = false) : ∀ {n}, i < n → cntB (uN M i true) n = cntB M n + 1
  | 0, h => absurd h (by omega)
  | n + 1, h => by
    show cntB (uN M i true) n + _ = cntB M n + _ + 1
    by_cases c : n = i
    · subst c
      rw [cntB_out (Nat.le_refl _), uN_s, h0, if_pos rfl, if_neg (by decide)]
    · rw [cntB_up h0 (by omega), uN_n c]; omega
theorem cntB_0 : ∀ n, cntB (fun _ => false) n = 0
  | 0 => rfl
  | n + 1 => by
    show cntB (fun _ => false) n + _ = 0
    rw [cntB_0 n]; rfl
abbrev BS (α : Type) : Type := (Nat → Bool) × (Nat → Nat) × Nat × α
section BFS
variable {α : Type}
def bs1 (f s : Nat → Nat) (A : Nat) (vis : Nat → Nat → α → α) (p k : Nat) (S : BS α) : BS α := if brT f s A k p ∧ S.1 (brO f s k p) = false then (uN S.1 (brO f s k p) true, uN S.2.1 S.2.2.1 (brO f s k p), S.2.2.1 + 1, vis p k S.2.2.2) else S
def bs2 (f s : Nat → Nat) (A : Nat) (vis : Nat → Nat → α → α) (p : Nat) (S : BS α) : Nat → BS α
  | 0 => S
  | k + 1 => bs1 f s A vis p k (bs2 f s A vis p S k)
def bs3 (f s : Nat → Nat) (A : Nat) (vis : Nat → Nat → α → α) (m : Nat) (S : BS α) : Nat → BS α
  | 0 => S
  | t + 1 => if t < (bs3 f s A vis m S t).2.2.1 then bs2 f s A vis ((bs3 f s A vis m S t).2.1 t) (bs3 f s A vis m S t) m else bs3 f s A vis m S t
/-- n points, M0 what was found before -/
def BI (n : Nat) (M0 : Nat → Bool) (S : BS α) : Prop := S.2.2.1 + cntB M0 n = cntB S.1 n ∧ (∀ j, j < S.2.2.1 → S.2.1 j < n ∧ S.1 (S.2.1 j) = true) ∧ (∀ p, S.1 p = true → M0 p = true ∨ ∃ j, j < S.2.2.1 ∧ S.2.1 j = p) ∧ (∀ p, M0 p = true → S.1 p = true)
def BLe (S T : BS α) : Prop := S.2.2.1 ≤ T.2.2.1 ∧ (∀ j, j < S.2.2.1 → T.2.1 j = S.2.1 j) ∧ ∀ p, S.1 p = true → T.1 p = true
theorem BLe.rf (S : BS α) : BLe S S := ⟨Nat.le_refl _, fun _ _ => rfl, fun _ h => h⟩
theorem BLe.tr {S T U : BS α} (h : BLe S T) (g : BLe T U) : BLe S U := ⟨Nat.le_trans h.1 g.1, fun j hj => (g.2.1 j (Nat.lt_of_lt_of_le hj h.1)).trans (h.2.1 j hj), fun p q => g.2.2 p (h.2.2 p q)⟩
variable {f s : Nat → Nat} {A : Nat} {vis : Nat → Nat → α → α} {m n : Nat} {M0 : Nat → Bool}
theorem BI.c {S : BS α} (h : BI n M0 S) : S.2.2.1 ≤ n := by
  have h1 := cntB_le S.1 n
  have h2 := h.1
  omega
/-- room for one that isn't found yet -/
theorem BI.room {S : BS α} (h : BI n M0 S) {o : Nat} (ho : o < n) (hm : S.1 o = false) : S.2.2.1 < n := by
  have h1 := cntB_le (uN S.1 o true) n
  have h2 := h.1
  rw [cntB_up hm ho] at h1
  omega
theorem bs1_le (p k : Nat) (S : BS α) : BLe S (bs1 f s A vis p k S) := by
  unfold bs1
  by_cases c : brT f s A k p ∧ S.1 (brO f s k p) = false
  · rw [if_pos c]
    refine ⟨Nat.le_succ _, fun j hj => uN_n (by omega), fun q hq => ?_⟩
    show uN _ _ _ q = true
    by_cases e : q = brO f s k p
    · rw [e]; exact uN_s
    · rw [uN_n e]; exact hq
  · rw [if_neg c]; exact BLe.rf S
theorem bs1_I {p k : Nat} {S : BS α} (hg : f k < n ∧ s k < n) (h : BI n M0 S) : BI n M0 (bs1 f s A vis p k S) := by
  unfold bs1
  by_cases c : brT f s A k p ∧ S.1 (brO f s k p) = false
  · rw [if_pos c]
    have ho := brO_lt (p := p) hg
    refine ⟨?_, ?_, ?_, ?_⟩
    · show S.2.2.1 + 1 + cntB M0 n = cntB (uN S.1 _ true) n
      rw [cntB_up c.2 ho, ← h.1]; omega
    · intro j hj
      show uN S.2.1 S.2.2.1 _ j < n ∧ uN S.1 _ true (uN S.2.1 S.2.2.1 _ j) = true
      by_cases e : j = S.2.2.1
      · rw [e, uN_s, uN_s]; exact ⟨ho, rfl⟩
      · rw [uN_n e]
        have h2 := h.2.1 j (by have : j < S.2.2.1 + 1 := hj; omega)
        refine ⟨h2.1, ?_⟩
        by_cases e2 : S.2.1 j = brO f s k p
        · rw [e2]; exact uN_s
        · rw [uN_n e2]; exact h2.2
    · intro q hq
      by_cases e : q = brO f s k p
      · exact Or.inr ⟨S.2.2.1, Nat.lt_succ_self _, by rw [e]; exact uN_s⟩
      · have hq2 : uN S.1 (brO f s k p) true q = true := hq
        rw [uN_n e] at hq2
        rcases h.2.2.1 q hq2 with h3 | ⟨j, hj, h3⟩
        · exact Or.inl h3
        · exact Or.inr ⟨j, Nat.lt_succ_of_lt hj, by rw [← h3]; exact uN_n (by omega)⟩
    · intro q hq
      show uN S.1 _ true q = true
      by_cases e : q = brO f s k p
      · rw [e]; exact uN_s
      · rw [uN_n e]; exact h.2.2.2 q hq
  · rw [if_neg c]; exact h
theorem bs2_le (p : Nat) (S : BS α) : ∀ k, BLe S (bs2 f s A vis p S k)
  | 0 => BLe.rf S
  | k + 1 => (bs2_le p S k).tr (bs1_le p k _)
theorem bs2_I {p : Nat} {S : BS α} (hg : ∀ k, k < m → f k < n ∧ s k < n) (h : BI n M0 S) : ∀ k, k ≤ m → BI n M0 (bs2 f s A vis p S k)
  | 0, _ => h
  | k + 1, hk => bs1_I (hg k (by omega)) (bs2_I hg h k (by omega))
theorem bs2_done (p : Nat) (S : BS α) : ∀ k, ∀ i, i < k → brT f s A i p → (bs2 f s A vis p S k).1 (brO f s i p) = true
  | 0, i, h, _ => absurd h (by omega)
  | k + 1, i, h, ht => by
    by_cases c : i = k
    · subst c
      show (bs1 f s A vis p i (bs2 f s A vis p S i)).1 _ = true
      unfold bs1
      by_cases d : brT f s A i p ∧ (bs2 f s A vis p S i).1 (brO f s i p) = false
      · rw [if_pos d]; exact uN_s
      · rw [if_neg d]
        cases e : (bs2 f s A vis p S i).1 (brO f s i p) with
        | true => rfl
        | false => exact absurd ⟨ht, e⟩ d
    · exact (bs1_le p k _).2.2 _ (bs2_done p S k i (by omega) ht)
theorem bs3_s (S : BS α) (t : Nat) : bs3 f s A vis m S (t + 1) = if t < (bs3 f s A vis m S t).2.2.1 then bs2 f s A vis ((bs3 f s A vis m S t).2.1 t) (bs3 f s A vis m S t) m else bs3 f s A vis m S t := rfl
theorem bs3_le1 (S : BS α) (t : Nat) : BLe (bs3 f s A vis m S t) (bs3 f s A vis m S (t + 1)) := by
  rw [bs3_s]
  split
  · exact bs2_le _ _ m
  · exact BLe.rf _
theorem bs3_le (S : BS α) : ∀ t, BLe S (bs3 f s A vis m S t)
  | 0 => BLe.rf S
  | t + 1 => (bs3_le S t).tr (bs3_le1 S t)
theorem bs3_I {S : BS α} (hg : ∀ k, k < m → f k < n ∧ s k < n) (h : BI n M0 S) : ∀ t, BI n M0 (bs3 f s A vis m S t)
  | 0 => h
  | t + 1 => by
    rw [bs3_s]
    split
    · exact bs2_I hg (bs3_I hg h t) m (Nat.le_refl _)
    · exact bs3_I hg h t
theorem bs3_done (S : BS α) : ∀ t j, j < t → j < (bs3 f s A vis m S t).2.2.1 → ∀ k, k < m → brT f s A k ((bs3 f s A vis m S t).2.1 j) → (bs3 f s A vis m S t).1 (brO f s k ((bs3 f s A vis m S t).2.1 j)) = true
  | 0, j, h, _, _, _, _ => absurd h (by omega)
  | t + 1, j, h, hc, k, hk, ht => by
    have L := bs3_le1 (f := f) (s := s) (A := A) (vis := vis) (m := m) S t
    by_cases c : j < (bs3 f s A vis m S t).2.2.1
    · rw [L.2.1 j c] at ht ⊢
      by_cases d : j = t
      · subst d
        rw [bs3_s, if_pos c]
        exact bs2_done _ _ m k hk ht
      · exact L.2.2 _ (bs3_done S t j (by omega) c k hk ht)
    · exfalso
      rw [bs3_s] at hc
      by_cases d : t < (bs3 f s A vis m S t).2.2.1
      · omega
      · rw [if_neg d] at hc; exact c hc
theorem bs3_stop (S : BS α) {t : Nat} (h : (bs3 f s A vis m S t).2.2.1 ≤ t) : ∀ i, bs3 f s A vis m S (t + i) = bs3 f s A vis m S t
  | 0 => rfl
  | i + 1 => by
    have e := bs3_stop S h i
    show bs3 f s A vis m S (t + i + 1) = _
    rw [bs3_s, e, if_neg (by omega)]
theorem bs3_end {S : BS α} (hg : ∀ k, k < m → f k < n ∧ s k < n) (h : BI n M0 S) {t : Nat} (ht : (bs3 f s A vis m S t).2.2.1 ≤ t) (hn : t ≤ n) {N : Nat} (hN : n ≤ N) : bs3 f s A vis m S N = bs3 f s A vis m S t := by
  have := bs3_stop S ht (N - t)
  rwa [show t + (N - t) = N by omega] at this
/-- what was found is closed -/
theorem bs3_closed {S : BS α} (hg : ∀ k, k < m → f k < n ∧ s k < n) (h : BI n M0 S) (h0 : ∀ k, k < m → A.testBit k = true → M0 (f k) = M0 (s k)) {N : Nat} (hN : n ≤ N) : ∀ k, k < m → A.testBit k = true → (bs3 f s A vis m S N).1 (f k) = (bs3 f s A vis m S N).1 (s k) := by
  intro k hk hA
  have I := bs3_I (A := A) (vis := vis) hg h N
  have D := bs3_done (f := f) (s := s) (A := A) (vis := vis) (m := m) S N
  have key : ∀ p, brT f s A k p → (bs3 f s A vis m S N).1 p = true → (bs3 f s A vis m S N).1 (brO f s k p) = true := by
    intro p hp hM
    rcases I.2.2.1 p hM with h1 | ⟨j, hj, h1⟩
    · refine I.2.2.2 _ ?_
      rcases hp.2 with e | e
      · rw [← e, brO_f, ← h0 k hk hA, e]; exact h1
      · rw [← e, brO_s, h0 k hk hA, e]; exact h1
    · have := D j (by have := I.c; omega) hj k hk (by rw [h1]; exact hp)
      rwa [h1] at this
  have k1 := key (f k) ⟨hA, Or.inl rfl⟩
  have k2 := key (s k) ⟨hA, Or.inr rfl⟩
  rw [brO_f] at k1
  rw [brO_s] at k2
  cases e1 : (bs3 f s A vis m S N).1 (f k) <;> cases e2 : (bs3 f s A vis m S N).1 (s k)
  · rfl
  · rw [k2 e2] at e1; exact e1.symm
  · rw [k1 e1] at e2; exact e2
  · rfl
/-- nothing is found but what must be -/
theorem bs3_least {S : BS α} {C : Nat → Prop} (hC : ∀ k, k < m → A.testBit k = true → (C (f k) ↔ C (s k))) (hg : ∀ k, k < m → f k < n ∧ s k < n) (h : BI n M0 S) (h0 : ∀ p, S.1 p = true → C p) : ∀ t p, (bs3 f s A vis m S t).1 p = true → C p := by
  have one : ∀ (T : BS α) (p k : Nat), k < m → C p → (∀ q, T.1 q = true → C q) → ∀ q, (bs1 f s A vis p k T).1 q = true → C q := by
    intro T p k hk hp hT q hq
    unfold bs1 at hq
    by_cases c : brT f s A k p ∧ T.1 (brO f s k p) = false
    · rw [if_pos c] at hq
      have hq2 : uN T.1 (brO f s k p) true q = true := hq
      by_cases e : q = brO f s k p
      · rw [e]
        rcases c.1.2 with e2 | e2
        · rw [← e2, brO_f]; rw [← e2] at hp; exact (hC k hk c.1.1).mp hp
        · rw [← e2, brO_s]; rw [← e2] at hp; exact (hC k hk c.1.1).mpr hp
      · rw [uN_n e] at hq2; exact hT q hq2
    · rw [if_neg c] at hq; exact hT q hq
  have two : ∀ (T : BS α) (p : Nat), C p → (∀ q, T.1 q = true → C q) → ∀ k, k ≤ m → ∀ q, (bs2 f s A vis p T k).1 q = true → C q := by
    intro T p hp hT k
    induction k with
    | zero => exact fun _ => hT
    | succ k ih => exact fun hk => one _ p k (by omega) hp (ih (by omega))
  intro t
  induction t with
  | zero => exact h0
  | succ t ih =>
    rw [bs3_s]
    by_cases c : t < (bs3 f s A vis m S t).2.2.1
    · rw [if_pos c]
      exact two _ _ (ih _ ((bs3_I (A := A) (vis := vis) hg h t).2.1 t c).2) ih m (Nat.le_refl _)
    · rw [if_neg c]; exact ih
/-- what each find keeps, all keep -/
theorem bs3_keep {S : BS α} (P : BS α → Prop) (hg : ∀ k, k < m → f k < n ∧ s k < n) (h : BI n M0 S) (hP : ∀ (T : BS α) p k, BI n M0 T → P T → k < m → p < n → T.1 p = true → brT f s A k p → T.1 (brO f s k p) = false → P (uN T.1 (brO f s k p) true, uN T.2.1 T.2.2.1 (brO f s k p), T.2.2.1 + 1, vis p k T.2.2.2)) (h0 : P S) : ∀ t, P (bs3 f s A vis m S t) := by
  have one : ∀ (T : BS α) (p k : Nat), k < m → p < n → T.1 p = true → BI n M0 T → P T → P (bs1 f s A vis p k T) := by
    intro T p k hk hp hpm hI hT
    unfold bs1
    by_cases c : brT f s A k p ∧ T.1 (brO f s k p) = false
    · rw [if_pos c]; exact hP T p k hI hT hk hp hpm c.1 c.2
    · rw [if_neg c]; exact hT
  have two : ∀ (T : BS α) (p : Nat), p < n → T.1 p = true → BI n M0 T → P T → ∀ k, k ≤ m → P (bs2 f s A vis p T k) := by
    intro T p hp hpm hI hT k
    induction k with
    | zero => exact fun _ => hT
    | succ k ih => exact fun hk => one _ p k (by omega) hp ((bs2_le p T k).2.2 p hpm) (bs2_I hg hI k (by omega)) (ih (by omega))
  intro t
  induction t with
  | zero => exact h0
  | succ t ih =>
    rw [bs3_s]
    have I := bs3_I (A := A) (vis := vis) hg h t
    by_cases c : t < (bs3 f s A vis m S t).2.2.1
    · rw [if_pos c]
      exact two _ _ (I.2.1 t c).1 (I.2.1 t c).2 I ih m (Nat.le_refl _)
    · rw [if_neg c]; exact ih
end BFS
/-- a loop that goes through related states -/
theorem gloop_rel {σ ρ : Type} {body : σ → Option (σ ⊕ ρ)} (R : Nat → σ → Prop) (Z : ρ → Prop) (n : Nat) (hs : ∀ i s, i ≤ n → R i s → (∃ t, body s = some (.inl t) ∧ R (i + 1) t ∧ i < n) ∨ ∃ r, body s = some (.inr r) ∧ Z r) (hn : n < gFuel) {s0 : σ} (h0 : R 0 s0) : ∃ r, gloop body gFuel s0 = some r ∧ Z r := by
  have key : ∀ k i s, i + k = n → R i s → ∀ g, k < g → ∃ r, gloop body g s = some r ∧ Z r := by
    intro k
    induction k with
    | zero =>
      intro i s hi hR g hg
      obtain ⟨g, rfl⟩ : ∃ q, g = q + 1 := ⟨g - 1, by omega⟩
      rcases hs i s (by omega) hR with ⟨t, -, -, h⟩ | ⟨r, h1, h2⟩
      · omega
      · refine ⟨r, ?_, h2⟩
        show (body s).bind _ = some r
        rw [h1]; rfl
    | succ k ih =>
      intro i s hi hR g hg
      obtain ⟨g, rfl⟩ : ∃ q, g = q + 1 := ⟨g - 1, by omega⟩
      rcases hs i s (by omega) hR with ⟨t, h1, h2, -⟩ | ⟨r, h1, h2⟩
      · obtain ⟨r, h3, h4⟩ := ih (i + 1) t (by omega) h2 g (by omega)
        refine ⟨r, ?_, h4⟩
        show (body s).bind _ = some r
        rw [h1]; exact h3
      · refine ⟨r, ?_, h2⟩
        show (body s).bind _ = some r
        rw [h1]; rfl
  exact key n 0 s0 (by omega) h0 gFuel hn

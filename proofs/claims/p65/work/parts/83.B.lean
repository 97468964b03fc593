/-! what the law's matrix holds: the least lengths of ways -/
def GZ (P : Nat) (z : Mx) (N : Nat → Nat → Nat) : Prop := ∀ a b, a < P → b < P → z a b = nI (N a b) ∧ N a b ≤ 1000000
theorem imin_n {a b : Nat} (ha : a < 2 ^ 31) (hb : b < 2 ^ 31) : imin (nI a) (nI b) = nI (min a b) := by
  unfold imin
  by_cases c : b < a
  · rw [if_pos ((nI_ltI hb ha).mpr c), Nat.min_eq_right (by omega)]
  · rw [if_neg (fun q => c ((nI_ltI hb ha).mp q)), Nat.min_eq_left (by omega)]
theorem upd2_e {M : Mx} {i j : Nat} {x : Int32} : upd2 M i j x i j = x := if_pos ⟨rfl, rfl⟩
theorem upd2_n {M : Mx} {i j a b : Nat} {x : Int32} (h : a ≠ i ∨ b ≠ j) : upd2 M i j x a b = M a b := if_neg (fun w => by omega)
theorem dI0_at (z : Mx) (a i j : Nat) : ∀ n, dI0 z a n i j = if i = a ∧ j < n then (if a = j then 0 else 1000000) else z i j := by
  intro n
  induction n with
  | zero => rw [if_neg (by omega)]; rfl
  | succ n ih =>
    show upd2 (dI0 z a n) a n _ i j = _
    by_cases c : i = a ∧ j = n
    · obtain ⟨rfl, rfl⟩ := c
      rw [upd2_e, if_pos (c := i = i ∧ j < j + 1) ⟨rfl, by omega⟩]
    · rw [upd2_n (by omega), ih]
      by_cases d : i = a ∧ j < n
      · rw [if_pos d, if_pos (c := i = a ∧ j < n + 1) ⟨d.1, by omega⟩]
      · rw [if_neg d, if_neg (by omega)]
theorem dI1_at (P i j : Nat) (hj : j < P) : ∀ n, i < n → dI1 P n i j = if i = j then 0 else 1000000 := by
  intro n
  induction n with
  | zero => intro h; exact absurd h (by omega)
  | succ n ih =>
    intro h
    show dI0 (dI1 P n) n P i j = _
    rw [dI0_at]
    by_cases c : i = n
    · rw [if_pos ⟨c, hj⟩, c]
    · rw [if_neg (by omega), ih (by omega)]
section WK
variable {u v : Nat → Nat → Int32}
theorem wk_0 (s : Nat) : wk u s s 0 := ⟨0, rfl, rfl⟩
theorem wk_1 {k q : Nat} (hk : k < nN u) (ht : tT u k q) {s e : Nat} (h : wk u s (oO u k q) e) : wk u s q (e + ln u k) := by
  obtain ⟨i, hi⟩ := h
  exact ⟨i + 1, k, hk, ht, e, hi, rfl⟩
theorem wk_tr {s m a : Nat} (h : wk u s m a) : ∀ i q b, wkn u m i q b → wk u s q (a + b)
  | 0, q, b, ⟨e1, e2⟩ => by rw [e1, e2]; exact h
  | i + 1, q, b, ⟨k, hk, ht, e, he, hd⟩ => by
    have := wk_1 hk ht (wk_tr h i _ e he)
    rw [hd, ← Nat.add_assoc]; exact this
theorem wk_t {s m q a b : Nat} (h : wk u s m a) (g : wk u m q b) : wk u s q (a + b) := by
  obtain ⟨i, hi⟩ := g
  exact wk_tr h i q b hi
theorem wk_e1 (C : CI u) {k q : Nat} (hk : k < nN u) (ht : tT u k q) : wk u q (oO u k q) (ln u k) := by
  obtain ⟨h1, h2, -⟩ := brO_brO ht (C.line hk).2.2.2.2.1
  have h3 := wk_1 (s := q) (q := oO u k q) (e := 0) hk h1 (by rw [show oO u k (oO u k q) = q from h2]; exact wk_0 q)
  rw [Nat.zero_add] at h3
  exact h3
theorem wk_sy (C : CI u) {s : Nat} : ∀ i q b, wkn u s i q b → wk u q s b
  | 0, q, b, ⟨e1, e2⟩ => by rw [e1, e2]; exact wk_0 s
  | i + 1, q, b, ⟨k, hk, ht, e, he, hd⟩ => by
    have h1 := wk_t (wk_e1 C hk ht) (wk_sy C i _ e he)
    rw [hd, Nat.add_comm]; exact h1
theorem wk_s (C : CI u) {s q b : Nat} (h : wk u s q b) : wk u q s b := by
  obtain ⟨i, hi⟩ := h
  exact wk_sy C i q b hi
/-- the start, the lines before k, and nothing that isn't a way -/
def LN (u : Nat → Nat → Int32) (k : Nat) (N : Nat → Nat → Nat) : Prop := (∀ i, i < nP u → N i i = 0) ∧ (∀ i j, i < nP u → j < nP u → N i j < 1000000 → wk u i j (N i j)) ∧ ∀ j, j < k → (nA u).testBit j = true → N (fs u j) (sn u j) ≤ ln u j ∧ N (sn u j) (fs u j) ≤ ln u j
theorem wk_line (C : CI u) {k : Nat} (hk : k < nN u) (hA : (nA u).testBit k = true) : wk u (fs u k) (sn u k) (ln u k) := by
  have h := wk_e1 C hk (⟨hA, Or.inl rfl⟩ : tT u k (fs u k))
  rw [show oO u k (fs u k) = sn u k from brO_f] at h
  exact h
def nL1 (f s x : Nat) (N : Nat → Nat → Nat) : Nat → Nat → Nat := fun a b => if (a = f ∧ b = s) ∨ (a = s ∧ b = f) then x else N a b
theorem nL1_i {f s x : Nat} {N : Nat → Nat → Nat} {a b : Nat} (h : (a = f ∧ b = s) ∨ (a = s ∧ b = f)) : nL1 f s x N a b = x := if_pos h
theorem nL1_o {f s x : Nat} {N : Nat → Nat → Nat} {a b : Nat} (h : ¬ ((a = f ∧ b = s) ∨ (a = s ∧ b = f))) : nL1 f s x N a b = N a b := if_neg h
theorem dL_N (C : CI u) (H : AC u v) {w : Int32} (hw : ∀ k, k < nN v → ((nA u).testBit k = true ↔ (nA v).testBit k = true ∧ nI k ≠ w)) {z : Mx} {N : Nat → Nat → Nat} (G : GZ (nP v) z N) (h0 : LN u 0 N) : ∀ k, k ≤ nN v → ∃ N, GZ (nP v) (dL v w z k) N ∧ LN u k N := by
  intro k
  induction k with
  | zero => intro _; exact ⟨N, G, h0⟩
  | succ k ih =>
    intro hk
    obtain ⟨N, G, hN⟩ := ih (by omega)
    have hku : k < nN u := by rw [H.2.1]; omega
    have L := C.line hku
    have hl := L.lnb
    have hP := H.2.2
    have ef : fs v k = fs u k := by rw [H.f]
    have es : sn v k = sn u k := by rw [H.s]
    have el : ln v k = ln u k := by rw [H.xln]
    show ∃ N, GZ (nP v) (if (nA v).testBit k = true ∧ nI k ≠ w then dL1 v k (dL v w z k) else dL v w z k) N ∧ LN u (k + 1) N
    by_cases c : (nA v).testBit k = true ∧ nI k ≠ w
    · rw [if_pos c]
      have hA := (hw k (by omega)).mpr c
      generalize dL v w z k = z at G
      obtain ⟨g1, g2⟩ := G (fs u k) (sn u k) (by rw [← hP]; exact L.2.2.1) (by rw [← hP]; exact L.2.2.2.1)
      have hx : imin (z (fs u k) (sn u k)) (nI (ln u k)) = nI (min (N (fs u k) (sn u k)) (ln u k)) := by rw [g1, imin_n (by omega) (by omega)]
      refine ⟨nL1 (fs u k) (sn u k) (min (N (fs u k) (sn u k)) (ln u k)) N, fun a b ha hb => ?_, fun i hi => ?_, fun i j hi hj hij => ?_, fun j hj hAj => ?_⟩
      · unfold dL1
        rw [ef, es, el, hx]
        by_cases d1 : a = fs u k ∧ b = sn u k
        · rw [nL1_i (Or.inl d1), d1.1, d1.2, upd2_e]
          exact ⟨rfl, by omega⟩
        · rw [upd2_n (by omega)]
          by_cases d2 : a = sn u k ∧ b = fs u k
          · rw [nL1_i (Or.inr d2), d2.1, d2.2, upd2_e]
            exact ⟨rfl, by omega⟩
          · rw [upd2_n (by omega), nL1_o (by omega)]
            exact G a b ha hb
      · have hne := L.2.2.2.2.1
        rw [nL1_o (by omega)]
        exact hN.1 i hi
      · have hl1 := wk_line C hku hA
        have hm : min (N (fs u k) (sn u k)) (ln u k) < 1000000 → wk u (fs u k) (sn u k) (min (N (fs u k) (sn u k)) (ln u k)) := fun h => by
          by_cases e : N (fs u k) (sn u k) ≤ ln u k
          · rw [Nat.min_eq_left e]; exact hN.2.1 _ _ L.2.2.1 L.2.2.2.1 (by omega)
          · rw [Nat.min_eq_right (by omega)]; exact hl1
        by_cases d1 : i = fs u k ∧ j = sn u k
        · rw [nL1_i (Or.inl d1)] at hij ⊢
          rw [d1.1, d1.2]; exact hm hij
        · by_cases d2 : i = sn u k ∧ j = fs u k
          · rw [nL1_i (Or.inr d2)] at hij ⊢
            rw [d2.1, d2.2]; exact wk_s C (hm hij)
          · rw [nL1_o (by omega)] at hij ⊢
            exact hN.2.1 i j hi hj hij
      · by_cases d : j = k
        · subst d
          rw [nL1_i (Or.inl ⟨rfl, rfl⟩), nL1_i (Or.inr ⟨rfl, rfl⟩)]
          omega
        · obtain ⟨q1, q2⟩ := hN.2.2 j (by omega) hAj
          have key : ∀ a b, N a b ≤ ln u j → N b a ≤ ln u j → nL1 (fs u k) (sn u k) (min (N (fs u k) (sn u k)) (ln u k)) N a b ≤ ln u j := fun a b h h9 => by
            by_cases d : a = fs u k ∧ b = sn u k
            · rw [nL1_i (Or.inl d)]; rw [d.1, d.2] at h; omega
            · by_cases d2 : a = sn u k ∧ b = fs u k
              · rw [nL1_i (Or.inr d2)]; rw [d2.1, d2.2] at h9; omega
              · rw [nL1_o (by omega)]; exact h
          exact ⟨key _ _ q1 q2, key _ _ q2 q1⟩
    · rw [if_neg c]
      refine ⟨N, G, hN.1, hN.2.1, fun j hj hAj => ?_⟩
      by_cases d : j = k
      · subst d; exact absurd ((hw j (by omega)).mp hAj) c
      · exact hN.2.2 j (by omega) hAj
/-- one point more to go over -/
def nF (N : Nat → Nat → Nat) (m : Nat) : Nat → Nat → Nat := fun i j => min (N i j) (N i m + N m j)
def cF (N : Nat → Nat → Nat) (m a b : Nat) : Nat → Nat → Nat := fun i j => if i < a ∨ (i = a ∧ j < b) then nF N m i j else N i j
theorem nF_r {N : Nat → Nat → Nat} {m i : Nat} (h : N m m = 0) : nF N m i m = N i m ∧ nF N m m i = N m i := by
  unfold nF; rw [h]; constructor <;> omega
theorem cF_m {N : Nat → Nat → Nat} {m a b i : Nat} (h : N m m = 0) : cF N m a b i m = N i m ∧ cF N m a b m i = N m i := by
  unfold cF
  constructor
  · split
    · exact (nF_r h).1
    · rfl
  · split
    · exact (nF_r h).2
    · rfl
theorem dF0_G {P m a : Nat} {N : Nat → Nat → Nat} (hm : m < P) (ha : a < P) (h0 : N m m = 0) {z : Mx} (G : GZ P z (cF N m a 0)) : ∀ b, b ≤ P → GZ P (dF0 m a z b) (cF N m a b) := by
  intro b
  induction b with
  | zero => intro _; exact G
  | succ b ih =>
    intro hb i j hi hj
    have I := ih (by omega)
    show upd2 (dF0 m a z b) a b _ i j = _ ∧ _
    by_cases c : i = a ∧ j = b
    · obtain ⟨rfl, rfl⟩ := c
      obtain ⟨p1, p2⟩ := I i j hi hj
      obtain ⟨p3, p4⟩ := I i m hi hm
      obtain ⟨p5, p6⟩ := I m j hm hj
      rw [upd2_e, p1, p3, p5, nI_add, imin_n (by omega) (by omega), (cF_m h0).1, (cF_m h0).2]
      rw [(cF_m h0).1] at p4
      have e1 : cF N m i j i j = N i j := if_neg (by omega)
      have e2 : cF N m i (j + 1) i j = nF N m i j := if_pos (by omega)
      rw [e1] at p2
      rw [e1, e2]
      exact ⟨rfl, by unfold nF; omega⟩
    · rw [upd2_n (by omega)]
      have e : cF N m a (b + 1) i j = cF N m a b i j := by
        unfold cF
        by_cases d : i < a ∨ (i = a ∧ j < b)
        · rw [if_pos d, if_pos (by omega)]
        · rw [if_neg d, if_neg (by omega)]
      rw [e]
      exact I i j hi hj
theorem dF1_G {P m : Nat} {N : Nat → Nat → Nat} (hm : m < P) (h0 : N m m = 0) {z : Mx} (G : GZ P z N) : ∀ a, a ≤ P → GZ P (dF1 P m z a) (cF N m a 0) := by
  intro a
  induction a with
  | zero =>
    intro _ i j hi hj
    show z i j = nI (cF N m 0 0 i j) ∧ _
    rw [show cF N m 0 0 i j = N i j from if_neg (by omega)]
    exact G i j hi hj
  | succ a ih =>
    intro ha i j hi hj
    have h := dF0_G hm (by omega) h0 (ih (by omega)) P (Nat.le_refl _) i j hi hj
    have e : cF N m (a + 1) 0 i j = cF N m a P i j := by
      unfold cF
      by_cases d : i < a + 1 ∨ (i = a + 1 ∧ j < 0)
      · rw [if_pos d, if_pos (by omega)]
      · rw [if_neg d, if_neg (by omega)]
    rw [e]
    exact h
def TR (P m : Nat) (N : Nat → Nat → Nat) : Prop := ∀ i j t, i < P → j < P → t < P → t < m → N i j ≤ N i t + N t j
theorem nF_T {P m : Nat} {N : Nat → Nat → Nat} (hm : m < P) (h0 : N m m = 0) (T : TR P m N) : TR P (m + 1) (nF N m) := by
  intro i j t hi hj ht htm
  by_cases c : t = m
  · subst c
    rw [(nF_r h0).1, (nF_r h0).2]
    unfold nF; omega
  · have a1 := T i j t hi hj ht (by omega)
    have a2 := T i m t hi hm ht (by omega)
    have a3 := T m j t hm hj ht (by omega)
    unfold nF; omega
theorem nF_LN {m : Nat} (hm : m < nP u) {N : Nat → Nat → Nat} {k : Nat} (h : LN u k N) (hle : ∀ j, j < k → fs u j < nP u ∧ sn u j < nP u) : LN u k (nF N m) := by
  refine ⟨fun i hi => ?_, fun i j hi hj hij => ?_, fun j hj hA => ?_⟩
  · have := h.1 i hi
    unfold nF; omega
  · unfold nF at hij ⊢
    by_cases c : N i j ≤ N i m + N m j
    · rw [Nat.min_eq_left c] at hij ⊢; exact h.2.1 i j hi hj hij
    · rw [Nat.min_eq_right (by omega)] at hij ⊢
      exact wk_t (h.2.1 i m hi hm (by omega)) (h.2.1 m j hm hj (by omega))
  · have := h.2.2 j hj hA
    unfold nF; omega
theorem dF2_N (C : CI u) {P : Nat} (hP : nP u = P) {z : Mx} {N : Nat → Nat → Nat} (G : GZ P z N) (h : LN u (nN u) N) : ∀ m, m ≤ P → ∃ N, GZ P (dF2 P z m) N ∧ LN u (nN u) N ∧ TR P m N := by
  intro m
  induction m with
  | zero => intro _; exact ⟨N, G, h, fun i j t _ _ _ ht => absurd ht (Nat.not_lt_zero t)⟩
  | succ m ih =>
    intro hm
    obtain ⟨N, G, h, T⟩ := ih (by omega)
    have h0 : N m m = 0 := h.1 m (by omega)
    refine ⟨nF N m, fun i j hi hj => ?_, nF_LN (by omega) h (fun j hj => ⟨(C.line hj).2.2.1, (C.line hj).2.2.2.1⟩), nF_T (by omega) h0 T⟩
    have h1 := dF1_G (by omega) h0 G P (Nat.le_refl _) i j hi hj
    rw [show cF N m P 0 i j = nF N m i j from if_pos (by omega)] at h1
    exact h1
theorem dMx_N (C : CI u) (H : AC u v) {w : Int32} (hw : ∀ k, k < nN v → ((nA u).testBit k = true ↔ (nA v).testBit k = true ∧ nI k ≠ w)) : ∃ N, GZ (nP v) (dMx v w) N ∧ LN u (nN u) N ∧ TR (nP v) (nP v) N := by
  have G0 : GZ (nP v) (dI1 (nP v) (nP v)) (fun a b => if a = b then 0 else 1000000) := fun a b ha hb => by
    rw [dI1_at (nP v) a b hb (nP v) ha]
    show _ = nI (if a = b then 0 else 1000000) ∧ (if a = b then 0 else 1000000) ≤ 1000000
    by_cases c : a = b
    · rw [if_pos c, if_pos c]; exact ⟨rfl, by decide⟩
    · rw [if_neg c, if_neg c]; exact ⟨rfl, Nat.le_refl _⟩
  have L0 : LN u 0 (fun a b => if a = b then 0 else 1000000) := by
    refine ⟨fun i _ => if_pos rfl, fun i j _ _ hij => ?_, fun j hj => absurd hj (Nat.not_lt_zero j)⟩
    by_cases c : i = j
    · show wk u i j (if i = j then 0 else 1000000)
      rw [if_pos c, c]; exact wk_0 j
    · exact absurd (show (if i = j then 0 else 1000000) < 1000000 from hij) (by rw [if_neg c]; exact Nat.lt_irrefl _)
  obtain ⟨N, G, hN⟩ := dL_N C H hw G0 L0 (nN v) (Nat.le_refl _)
  rw [← H.2.1] at hN
  exact dF2_N C H.2.2 G hN (nP v) (Nat.le_refl _)
theorem N_wk (C : CI u) {N : Nat → Nat → Nat} (h : LN u (nN u) N) (T : TR (nP u) (nP u) N) {s : Nat} (hs : s < nP u) : ∀ i q d, wkn u s i q d → q < nP u → N s q ≤ d
  | 0, q, d, ⟨e1, e2⟩, _ => by rw [e1, h.1 s hs]; exact Nat.zero_le _
  | i + 1, q, d, ⟨k, hk, ht, e, he, hd⟩, hq => by
    have L := C.line hk
    have ho : oO u k q < nP u := brO_lt ⟨L.2.2.1, L.2.2.2.1⟩
    have h1 := N_wk C h T hs i _ e he ho
    have h2 := T s q (oO u k q) hs hq ho ho
    have h3 : N (oO u k q) q ≤ ln u k := by
      have h4 := h.2.2 k hk ht.1
      rcases ends ht with ⟨a, b⟩ | ⟨a, b⟩
      · rw [a, b]; exact h4.1
      · rw [a, b]; exact h4.2
    omega
/-- the matrix and the class's distances say the same -/
theorem N_D (C : CI u) {N : Nat → Nat → Nat} (h : LN u (nN u) N) (T : TR (nP u) (nP u) N) {s : Nat} (hs : s < nP u) {D : Nat → Option Nat} (I : DI u s D) (A : alS u s D) {q : Nat} (hq : q < nP u) : (D q = none ∧ 1000000 ≤ N s q) ∨ ∃ d, D q = some d ∧ N s q = d ∧ d ≤ 25600 := by
  cases e : D q with
  | none =>
    left
    refine ⟨rfl, Nat.not_lt.mp (fun hlt => ?_)⟩
    obtain ⟨d, hd, -⟩ := A q _ (h.2.1 s q hs hq hlt)
    rw [e] at hd; cases hd
  | some d =>
    right
    have hb := I.b C e
    obtain ⟨i, hi⟩ := (I.2 q d e).2.1
    have h1 := N_wk C h T hs i q d hi hq
    obtain ⟨d2, hd2, hF⟩ := A q d ⟨i, hi⟩
    rw [e] at hd2; cases hd2
    have h2 := hF.2 _ (h.2.1 s q hs hq (by omega))
    exact ⟨d, rfl, Nat.le_antisymm h1 h2, hb⟩
end WK

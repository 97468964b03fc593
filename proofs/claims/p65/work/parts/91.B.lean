/-! the law lays down one line -/
section LLN
variable {ν : gM} {k : Nat} {x : Nat → Nat → Nat}
def lgN (ν : gM) (k : Nat) (x : Nat → Nat → Nat) : Nat → gM
  | 0 => ν
  | s + 1 => lgrow (lgN ν k x s) k (gS (x s))
def stN (x : Nat → Nat → Nat) : Nat → List Nat
  | 0 => []
  | s + 1 => stN x s ++ stT (x s)
theorem gi_lg {g : Nat → Int32} (K i : Nat) : gi (lgrow ν k g) K i = if K = 100 + 8 * k + lSz ν k then g i else if K = 40 + k ∧ i = 2 then nI (lSz ν k + 1) else if K = 40 + k ∧ i = 0 then gi ν (40 + k) 0 + 1 else gi ν K i := by
  unfold lgrow
  rw [gi_sia, gi_si, gi_si]
theorem lgN_z (h : lSz ν k = 0) : ∀ s, s ≤ 8 → lSz (lgN ν k x s) k = s ∧ (0 < s → gi (lgN ν k x s) (40 + k) 2 = nI s)
  | 0, _ => ⟨h, fun w => absurd w (by decide)⟩
  | s + 1, hs => by
    obtain ⟨a, -⟩ := lgN_z h s (by omega)
    have e : gi (lgN ν k x (s + 1)) (40 + k) 2 = nI (s + 1) := by
      show gi (lgrow (lgN ν k x s) k (gS (x s))) (40 + k) 2 = _
      rw [gi_lg, a, if_neg (by omega), if_pos ⟨rfl, rfl⟩]
    exact ⟨by unfold lSz; rw [e, nI_clamp (by omega)], fun _ => e⟩
theorem lgN_o (h : lSz ν k = 0) {K i : Nat} (h1 : K ≠ 40 + k) : ∀ s, s ≤ 8 → (K < 100 + 8 * k ∨ 100 + 8 * k + s ≤ K) → gi (lgN ν k x s) K i = gi ν K i
  | 0, _, _ => rfl
  | s + 1, hs, h2 => by
    obtain ⟨a, -⟩ := lgN_z (x := x) h s (by omega)
    show gi (lgrow (lgN ν k x s) k (gS (x s))) K i = _
    rw [gi_lg, a, if_neg (by omega), if_neg (fun w => h1 w.1), if_neg (fun w => h1 w.1)]
    exact lgN_o h h1 s (by omega) (by omega)
theorem lgN_r (h : lSz ν k = 0) : ∀ s, s ≤ 8 → ∀ s', s' < s → ∀ w, gi (lgN ν k x s) (100 + 8 * k + s') w = gS (x s') w
  | 0, _, s', h2, _ => absurd h2 (Nat.not_lt_zero s')
  | s + 1, hs, s', h2, w => by
    obtain ⟨a, -⟩ := lgN_z (x := x) h s (by omega)
    show gi (lgrow (lgN ν k x s) k (gS (x s))) (100 + 8 * k + s') w = _
    rw [gi_lg, a]
    by_cases c : s' = s
    · rw [c, if_pos rfl]
    · rw [if_neg (by omega), if_neg (by omega), if_neg (by omega)]
      exact lgN_r h s (by omega) s' (by omega) w
theorem gS_at (y : Nat → Nat) {w : Nat} (hw : w < 4) : gS y w = nI (y w) := by
  have h4 : w = 0 ∨ w = 1 ∨ w = 2 ∨ w = 3 := by omega
  rcases h4 with q | q | q | q <;> subst q <;> rfl
theorem Qn_app {r : Nat → Nat → Nat} {R : List Nat} : ∀ m s, Qn r R m s = Qn r [] m s ++ R
  | 0, _ => rfl
  | m + 1, s => by
    show 32 :: (sdig (r s 0) ++ (32 :: (sdig (r s 1) ++ (32 :: (sdig (r s 2) ++ (32 :: (sdig (r s 3) ++ Qn r R m (s + 1)))))))) = (32 :: (sdig (r s 0) ++ (32 :: (sdig (r s 1) ++ (32 :: (sdig (r s 2) ++ (32 :: (sdig (r s 3) ++ Qn r [] m (s + 1))))))))) ++ R
    rw [Qn_app m (s + 1)]
    simp only [List.append_assoc, List.cons_append]
theorem Qn_st {r : Nat → Nat → Nat} {d : Nat} (hd : d < 3) : Qn r [] (d + 1) 0 = stN r (d + 1) ++ [59] := by
  have h3 : d = 0 ∨ d = 1 ∨ d = 2 := by omega
  rcases h3 with q | q | q <;> subst q <;> simp only [Qn, stN, stT, List.append_assoc, List.cons_append, List.nil_append]
def lnH (f s l : Nat) : List Nat := kLine ++ (32 :: ([112, 97 + f] ++ (32 :: ([112, 97 + s] ++ (32 :: [108, 97 + l])))))
/-- after the setups' loop -/
theorem ln_all {p2 : Int32} {d : Nat} (hd : ∀ μ, f_L_mod (p2 >>> ((9 : Int32) &&& 31)) (3 : Int32) μ = some (nI d)) (hd3 : d < 3) : ∃ x : Nat → Nat → Nat, (∀ s w, w < 4 → gdx w (x s w) ∧ x s w < 4100) ∧ ∀ (μ : gM) (k : Nat) (t9 : List Nat) (ν : gM), k < 11 → lLs ν = k + 1 → lSz ν k = 0 → t9.length ≤ 20 → j_L_line_j0 (nI k) p2 t9 ν μ = some (t9 ++ (stN x (d + 1) ++ [59]), lgN ν k x (d + 1)) := by
  obtain ⟨x0, b0, e0⟩ := ln_s0 hd hd3
  obtain ⟨x1, b1, e1⟩ := ln_s1 hd hd3
  obtain ⟨x2, b2, e2⟩ := ln_s2 hd hd3
  refine ⟨fun s => if s = 0 then x0 else if s = 1 then x1 else x2, fun s w hw => ?_, fun μ k t9 ν hk hl hz ht => ?_⟩
  · show gdx w ((if s = 0 then x0 else if s = 1 then x1 else x2) w) ∧ (if s = 0 then x0 else if s = 1 then x1 else x2) w < 4100
    by_cases c : s = 0
    · rw [if_pos c]; exact b0 w hw
    · rw [if_neg c]
      by_cases c2 : s = 1
      · rw [if_pos c2]; exact b1 w hw
      · rw [if_neg c2]; exact b2 w hw
  · generalize hx : (fun s => if s = 0 then x0 else if s = 1 then x1 else x2 : Nat → Nat → Nat) = x
    have q0 : x0 = x 0 := by rw [← hx]; rfl
    have q1 : x1 = x 1 := by rw [← hx]; rfl
    have q2 : x2 = x 2 := by rw [← hx]; rfl
    have l0 := stT_l (x := x0) (fun w hw => (b0 w hw).2)
    have l1 := stT_l (x := x1) (fun w hw => (b1 w hw).2)
    have l2 := stT_l (x := x2) (fun w hw => (b2 w hw).2)
    have z := fun s hs => (lgN_z (x := x) hz s hs).1
    have L : ∀ s, s ≤ 8 → lLs (lgN ν k x s) = k + 1 := fun s hs => by
      unfold lLs
      rw [lgN_o hz (by omega) s hs (by omega)]
      exact hl
    rw [e0 μ k t9 ν hk (by omega) (by omega) hz (by omega), if_neg (Nat.not_lt_zero d)]
    rw [q0, show lgrow ν k (gS (x 0)) = lgN ν k x 1 from rfl, ← q0]
    rw [e1 μ k (t9 ++ stT x0) (lgN ν k x 1) hk (by rw [L 1 (by decide)]; omega) (by rw [L 1 (by decide)]; omega) (z 1 (by decide)) (by rw [List.length_append]; omega)]
    by_cases c1 : d < 1
    · have : d = 0 := by omega
      subst this
      rw [if_pos c1, q0]
      simp only [stN, List.append_assoc, List.nil_append]
    · rw [if_neg c1, q1, show lgrow (lgN ν k x 1) k (gS (x 1)) = lgN ν k x 2 from rfl, ← q1]
      rw [e2 μ k (t9 ++ stT x0 ++ stT x1) (lgN ν k x 2) hk (by rw [L 2 (by decide)]; omega) (by rw [L 2 (by decide)]; omega) (z 2 (by decide)) (by rw [List.length_append, List.length_append]; omega)]
      by_cases c2 : d < 2
      · have : d = 1 := by omega
        subst this
        rw [if_pos c2, q0, q1]
        simp only [stN, List.append_assoc, List.nil_append]
      · have : d = 2 := by omega
        subst this
        rw [if_neg c2, q2, show lgrow (lgN ν k x 2) k (gS (x 2)) = lgN ν k x 3 from rfl, ← q2]
        rw [ln_s3 hd hd3 μ k (t9 ++ stT x0 ++ stT x1 ++ stT x2) (lgN ν k x 3) (by rw [List.length_append, List.length_append, List.length_append]; omega), q0, q1, q2]
        simp only [stN, List.append_assoc, List.nil_append]
end LLN

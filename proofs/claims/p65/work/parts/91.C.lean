/-! the law's line, whole -/
section LL1
/-- cells that line k takes -/
def eLw (k K i : Nat) : Prop := (K = 20 + k) ∨ (K = 4 ∧ i = k) ∨ (K = 5 ∧ i = k) ∨ (K = 6 ∧ (i = 0 ∨ i = 2)) ∨ (K = 7 ∧ i = 0) ∨ K = 40 + k ∨ (100 + 8 * k ≤ K ∧ K < 108 + 8 * k)
/-- where the law stands before line k -/
def LR (P N k : Nat) (ν : gM) : Prop := gi ν 0 1 = nI P ∧ gi ν 0 2 = nI N ∧ gi ν 6 2 = nI k ∧ (k ≠ 0 → gi ν 7 0 = nI (if k = 11 then 15 else 10))
theorem lnw {ν : gM} {c : Nat} (K i : Nat) : gi (lnew ν c) K i = if K = 40 + lLs ν ∧ i = 2 then 0 else if K = 40 + lLs ν ∧ i = 0 then 0 else if K = 7 ∧ i = 0 then nI c else if K = 6 ∧ i = 2 then nI (lLs ν + 1) else if K = 6 ∧ i = 0 then gi ν 6 0 + 1 else gi ν K i := by
  unfold lnew
  rw [gi_si, gi_si, gi_si, gi_si, gi_si]
theorem l_line (p2 : Int32) {P : Nat} (hP : 2 ≤ P ∧ P ≤ 8) : ∃ f s l d : Nat, ∃ x : Nat → Nat → Nat, (f < P ∧ s < P ∧ f ≠ s ∧ l < 2 ∧ d < 3 ∧ ∀ s w, w < 4 → gdx w (x s w) ∧ x s w < 4100) ∧ ∀ (k N : Nat) (ν μ : gM), k < N → N ≤ 11 → LR P N k ν → ∃ ν', f_L_line (nI k) p2 ν μ = some (lnH f s l ++ (stN x (d + 1) ++ [59]), ν') ∧ (∀ K i, ¬ eLw k K i → gi ν' K i = gi ν K i) ∧ LR P N (k + 1) ν' ∧ gi ν' (20 + k) 0 = nI f ∧ gi ν' (20 + k) 1 = nI s ∧ gi ν' 4 k = nI l ∧ gi ν' 5 k = 1 ∧ gi ν' (40 + k) 2 = nI (d + 1) ∧ (∀ s', s' < d + 1 → ∀ w, w < 4 → gi ν' (100 + 8 * k + s') w = nI (x s' w)) ∧ ν'.2 = ν.2 := by
  obtain ⟨f, hf, ef⟩ := l_mod p2 (n := P) (by omega) (by omega)
  obtain ⟨g, hg, eg⟩ := l_mod (p2 >>> ((4 : Int32) &&& 31)) (n := P - 1) (by omega) (by omega)
  obtain ⟨l, hl, el⟩ := pk_andE (p2 >>> ((8 : Int32) &&& 31)) (m := 1) 1 (by decide)
  obtain ⟨d, hd3, hd⟩ := l_mod (p2 >>> ((9 : Int32) &&& 31)) (n := 3) (by decide) (by decide)
  obtain ⟨x, hx, hj⟩ := ln_all hd hd3
  have hs : (f + 1 + g) % P < P := Nat.mod_lt _ (by omega)
  have hfs : f ≠ (f + 1 + g) % P := fun w => by
    by_cases c : f + 1 + g < P
    · rw [Nat.mod_eq_of_lt c] at w; omega
    · rw [Nat.mod_eq_sub_mod (by omega), Nat.mod_eq_of_lt (by omega)] at w; omega
  generalize hse : (f + 1 + g) % P = s at hs hfs
  refine ⟨f, s, l, d, x, ⟨hf, hs, hfs, hl, hd3, hx⟩, fun k N ν μ hk hN R => ?_⟩
  obtain ⟨r1, r2, r3, r4⟩ := R
  have hln : lLn ν = N := by unfold lLn; rw [r2, nI_clamp (by omega)]
  have hls : lLs ν = k := by unfold lLs; rw [r3, nI_clamp (by omega)]
  obtain ⟨ν14, h14⟩ : ∃ ν14, ν14 = si (si (si (si ν (20 + k) 0 (nI f)) (20 + k) 1 (nI s)) 4 k (nI l)) 5 k 1 := ⟨_, rfl⟩
  have g14 : ∀ K i, gi ν14 K i = if K = 5 ∧ i = k then 1 else if K = 4 ∧ i = k then nI l else if K = 20 + k ∧ i = 1 then nI s else if K = 20 + k ∧ i = 0 then nI f else gi ν K i := fun K i => by
    rw [h14, gi_si, gi_si, gi_si, gi_si]
  have hls14 : lLs ν14 = k := by unfold lLs; rw [g14, if_neg (by omega), if_neg (by omega), if_neg (by omega), if_neg (by omega)]; exact hls
  obtain ⟨ν18, h18⟩ : ∃ ν18, ν18 = lnew ν14 (if lLs ν14 = 10 then 15 else 10) := ⟨_, rfl⟩
  have g18 : ∀ K i, gi ν18 K i = if K = 40 + k ∧ i = 2 then 0 else if K = 40 + k ∧ i = 0 then 0 else if K = 7 ∧ i = 0 then nI (if k = 10 then 15 else 10) else if K = 6 ∧ i = 2 then nI (k + 1) else if K = 6 ∧ i = 0 then gi ν14 6 0 + 1 else gi ν14 K i := fun K i => by
    rw [h18, lnw, hls14]
  have hls18 : lLs ν18 = k + 1 := by unfold lLs; rw [g18, if_neg (by omega), if_neg (by omega), if_neg (by omega), if_pos ⟨rfl, rfl⟩, nI_clamp (by omega)]
  have hsz : lSz ν18 k = 0 := by unfold lSz; rw [g18, if_pos ⟨rfl, rfl⟩]; rfl
  have o : ∀ K i, K ≠ 40 + k → (K < 100 + 8 * k ∨ 108 + 8 * k ≤ K) → gi (lgN ν18 k x (d + 1)) K i = gi ν18 K i := fun K i h1 h2 => lgN_o hsz h1 (d + 1) (by omega) (by omega)
  have o2 : ∀ K i, ¬ eLw k K i → gi (lgN ν18 k x (d + 1)) K i = gi ν K i := fun K i h => by
    have h' : K ≠ 20 + k ∧ (K ≠ 4 ∨ i ≠ k) ∧ (K ≠ 5 ∨ i ≠ k) ∧ (K ≠ 6 ∨ (i ≠ 0 ∧ i ≠ 2)) ∧ (K ≠ 7 ∨ i ≠ 0) ∧ K ≠ 40 + k ∧ (K < 100 + 8 * k ∨ 108 + 8 * k ≤ K) := by unfold eLw at h; omega
    rw [o K i (by omega) (by omega), g18, if_neg (by omega), if_neg (by omega), if_neg (by omega), if_neg (by omega), if_neg (by omega), g14, if_neg (by omega), if_neg (by omega), if_neg (by omega), if_neg (by omega)]
  have v : ∀ K i, K ≠ 40 + k → (K < 100 + 8 * k ∨ 108 + 8 * k ≤ K) → K ≠ 6 → K ≠ 7 → gi (lgN ν18 k x (d + 1)) K i = gi ν14 K i := fun K i h1 h2 h3 h4 => by
    rw [o K i h1 h2, g18, if_neg (by omega), if_neg (by omega), if_neg (by omega), if_neg (by omega), if_neg (by omega)]
  refine ⟨lgN ν18 k x (d + 1), ?_, o2, ⟨?_, ?_, ?_, fun _ => ?_⟩, ?_, ?_, ?_, ?_, (lgN_z hsz (d + 1) (by omega)).2 (Nat.succ_pos d), fun s' hs' w hw => ?_, ?_⟩
  · unfold f_L_line
    rw [r1, ef μ, Option.bind_some, show nI P - 1 = nI (P - 1) from pk_sub (a := P) (b := 1) (by omega), eg μ, Option.bind_some, gckb (nI_ne0 (by omega) (by omega)), nI_1, nI_add, pk_rem (by omega) (by omega) (by omega), hse, Option.bind_some]
    have L2 : lLn (si ν (20 + k) 0 (nI f)) = N := by unfold lLn; rw [gi_sik (by omega)]; exact hln
    have L3 : lLn (si (si ν (20 + k) 0 (nI f)) (20 + k) 1 (nI s)) = N := by unfold lLn; rw [gi_sik (by omega), gi_sik (by omega)]; exact hln
    have L4 : lLn (si (si (si ν (20 + k) 0 (nI f)) (20 + k) 1 (nI s)) 4 k (nI l)) = N := by unfold lLn; rw [gi_sik (by omega), gi_sik (by omega), gi_sik (by omega)]; exact hln
    rw [hln, gck hk (by omega), gckb (by decide), Option.bind_some]
    simp (disch := omega) only [nI_clamp]
    rw [show (0 : Int32).toNatClampNeg = 0 from rfl, L2, gck hk (by omega), gckb (by decide), Option.bind_some, show (1 : Int32).toNatClampNeg = 1 from rfl, L3, gck hk (by omega), Option.bind_some, el, L4, gck hk (by omega), gckb (by decide), Option.bind_some, ← h14]
    rw [gckb ⟨by rw [hls14]; omega, fun w => by
      rw [hls14] at w
      rw [g14, if_neg (by omega), if_neg (by omega), if_neg (by omega), if_neg (by omega), r4 w, if_neg (by omega)]
      rfl⟩, Option.bind_some, ← h18]
    have L5 : lLn ν18 = N := by unfold lLn; rw [g18, if_neg (by omega), if_neg (by omega), if_neg (by omega), if_neg (by omega), if_neg (by omega), g14, if_neg (by omega), if_neg (by omega), if_neg (by omega), if_neg (by omega)]; exact hln
    have lv : gi ν18 4 k = nI l := by rw [g18, if_neg (by omega), if_neg (by omega), if_neg (by omega), if_neg (by omega), if_neg (by omega), g14, if_neg (by omega), if_pos ⟨rfl, rfl⟩]
    have a97 : ∀ y : Nat, (97 : Int32) + nI y = nI (97 + y) := fun y => nI_add 97 y
    rw [lx6, lx7, lx8, L5, lv, a97, a97, a97]
    simp only [List.nil_append, Option.bind_some]
    rw [gckb (by simp only [List.length_append, List.length_cons, List.length_nil, kLine]; omega)]
    simp (disch := omega) only [gck, nI_clamp]
    rw [gckb ⟨gIn_nI (by omega) (by omega), by simp only [List.length_append, List.length_cons, List.length_nil, kLine]; omega⟩, gckb (by simp only [List.length_append, List.length_cons, List.length_nil, kLine]; omega)]
    rw [gckb ⟨gIn_nI (by omega) (by omega), by simp only [List.length_append, List.length_cons, List.length_nil, kLine]; omega⟩, gckb (by simp only [List.length_append, List.length_cons, List.length_nil, kLine]; omega)]
    rw [gckb ⟨gIn_nI (by omega) (by omega), by simp only [List.length_append, List.length_cons, List.length_nil, kLine]; omega⟩]
    rw [hj μ k _ ν18 (by omega) hls18 hsz (by simp only [List.length_append, List.length_cons, List.length_nil, kLine]; omega)]
    unfold lnH
    simp only [List.append_assoc, List.cons_append, List.nil_append]
  · rw [o2 0 1 (by unfold eLw; omega)]; exact r1
  · rw [o2 0 2 (by unfold eLw; omega)]; exact r2
  · rw [o 6 2 (by omega) (by omega), g18, if_neg (by omega), if_neg (by omega), if_neg (by omega), if_pos ⟨rfl, rfl⟩]
  · rw [o 7 0 (by omega) (by omega), g18, if_neg (by omega), if_neg (by omega), if_pos ⟨rfl, rfl⟩]
    by_cases c : k = 10
    · rw [if_pos c, if_pos (by omega)]
    · rw [if_neg c, if_neg (by omega)]
  · rw [v _ _ (by omega) (by omega) (by omega) (by omega), g14, if_neg (by omega), if_neg (by omega), if_neg (by omega), if_pos ⟨rfl, rfl⟩]
  · rw [v _ _ (by omega) (by omega) (by omega) (by omega), g14, if_neg (by omega), if_neg (by omega), if_pos ⟨rfl, rfl⟩]
  · rw [v _ _ (by omega) (by omega) (by omega) (by omega), g14, if_neg (by omega), if_pos ⟨rfl, rfl⟩]
  · rw [v _ _ (by omega) (by omega) (by omega) (by omega), g14, if_pos ⟨rfl, rfl⟩]
  · rw [lgN_r hsz (d + 1) (by omega) s' hs' w, gS_at _ hw]
  · have e2 : ∀ n, (lgN ν18 k x n).2 = ν18.2 := fun n => by
      induction n with
      | zero => rfl
      | succ n ih => exact ih
    rw [e2, h18]
    show ν14.2 = ν.2
    rw [h14]
    rfl
end LL1

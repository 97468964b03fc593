/-! the law writes a line's setups -/
theorem lx0 : sTx 0 = kSet ++ (32 :: (kTol ++ [32])) := by decide +kernel
theorem lx1 : sTx 1 = [59] := by decide +kernel
theorem lx2 : sTx 2 = kLevel ++ [32, 108] := by decide +kernel
theorem lx3 : sTx 3 = [32] := by decide +kernel
theorem lx4 : sTx 4 = 32 :: (kDown ++ [59]) := by decide +kernel
theorem lx5 : sTx 5 = kPoint ++ [32, 112] := by decide +kernel
theorem lx6 : sTx 6 = kLine ++ [32, 112] := by decide +kernel
theorem lx7 : sTx 7 = [32, 112] := by decide +kernel
theorem lx8 : sTx 8 = [32, 108] := by decide +kernel
theorem sdig_l : ∀ d v, v < 10 ^ (d + 1) → (sdig v).length ≤ d + 1 := by
  intro d
  induction d with
  | zero =>
    intro v hv
    rw [sdig_s, if_pos (by omega)]
    exact Nat.le_refl _
  | succ d ih =>
    intro v hv
    rw [sdig_s]
    by_cases c : v < 10
    · rw [if_pos c]; exact Nat.succ_le_succ (Nat.zero_le _)
    · rw [if_neg c, List.length_append]
      have := ih (v / 10) (by rw [Nat.pow_succ] at hv; omega)
      show _ + 1 ≤ _
      omega
def stT (x : Nat → Nat) : List Nat := 32 :: (sdig (x 0) ++ (32 :: (sdig (x 1) ++ (32 :: (sdig (x 2) ++ (32 :: sdig (x 3)))))))
def gS (y : Nat → Nat) : Nat → Int32 := upd (upd (upd (upd (fun _ => 0) 0 (nI (y 0))) 1 (nI (y 1))) 2 (nI (y 2))) 3 (nI (y 3))
theorem gS_w (y : Nat → Nat) : gS y 0 = nI (y 0) ∧ gS y 1 = nI (y 1) ∧ gS y 2 = nI (y 2) ∧ gS y 3 = nI (y 3) := ⟨rfl, rfl, rfl, rfl⟩
def y4 (a b c d : Nat) : Nat → Nat
  | 0 => a
  | 1 => b
  | 2 => c
  | _ => d
section SET
variable {p2 : Int32} {d : Nat}
theorem lg_row {ν : gM} {k : Nat} {g : Nat → Int32} (w : Nat) : gi (lgrow ν k g) (100 + 8 * k + lSz ν k) w = g w := by
  unfold lgrow
  rw [gi_sia, if_pos rfl]
theorem stT_l {x : Nat → Nat} (h : ∀ w, w < 4 → x w < 4100) : (stT x).length ≤ 20 := by
  have a := sdig_l 3 (x 0) (by have := h 0 (by decide); omega)
  have b := sdig_l 3 (x 1) (by have := h 1 (by decide); omega)
  have c := sdig_l 3 (x 2) (by have := h 2 (by decide); omega)
  have e := sdig_l 3 (x 3) (by have := h 3 (by decide); omega)
  unfold stT
  simp only [List.length_cons, List.length_append]
  omega
theorem ln_end {k : Nat} {t9 : List Nat} {ν μ : gM} (s : Nat) (h : t9.length ≤ 960) : (([] : List Nat)).length + (t9).length ≤ 1024 ∧ (([] : List Nat) ++ t9).length + (sTx 1).length ≤ 1024 := by
  rw [lx1, List.nil_append]
  simp only [List.length_nil, List.length_cons]
  omega
theorem ln_s0 (hd : ∀ μ, f_L_mod (p2 >>> ((9 : Int32) &&& 31)) (3 : Int32) μ = some (nI d)) (hd3 : d < 3) : ∃ x : Nat → Nat, (∀ w, w < 4 → gdx w (x w) ∧ x w < 4100) ∧ ∀ (μ : gM) (k : Nat) (t9 : List Nat) (ν : gM), k < 11 → k < lLs ν → lLs ν ≤ 11 → lSz ν k = 0 → t9.length ≤ 960 → j_L_line_j0 (nI k) p2 t9 ν μ = if d < 0 then some (t9 ++ [59], ν) else j_L_line_j1 (nI k) p2 (t9 ++ stT x) (lgrow ν k (gS x)) μ := by
  obtain ⟨a, ha, ea⟩ := l_mod (p2 >>> ((0 : Int32) &&& 31)) (n := 4000) (by decide) (by decide)
  obtain ⟨b, hb, eb⟩ := l_mod (p2 >>> (((3 : Int32) + (0 : Int32)) &&& 31)) (n := 4000) (by decide) (by decide)
  obtain ⟨c, hc, ec⟩ := l_mod (p2 >>> (((11 : Int32) + (0 : Int32)) &&& 31)) (n := 90) (by decide) (by decide)
  obtain ⟨e, he, ee⟩ := l_mod (p2 >>> (((15 : Int32) + (0 : Int32)) &&& 31)) (n := 90) (by decide) (by decide)
  refine ⟨y4 a b (1 + c) (1 + e), fun w hw => ?_, fun μ k t9 ν hk hkl hl hs ht => ?_⟩
  · have h4 : w = 0 ∨ w = 1 ∨ w = 2 ∨ w = 3 := by omega
    unfold gdx
    rcases h4 with q | q | q | q <;> subst q
    · exact ⟨⟨fun _ => (show a ≤ 40000 by omega), fun w => absurd w (by decide)⟩, (show a < 4100 by omega)⟩
    · exact ⟨⟨fun _ => (show b ≤ 40000 by omega), fun w => absurd w (by decide)⟩, (show b < 4100 by omega)⟩
    · exact ⟨⟨fun w => absurd w (by decide), fun _ => (show 1 ≤ 1 + c ∧ 1 + c ≤ 100 by omega)⟩, (show 1 + c < 4100 by omega)⟩
    · exact ⟨⟨fun w => absurd w (by decide), fun _ => (show 1 ≤ 1 + e ∧ 1 + e ≤ 100 by omega)⟩, (show 1 + e < 4100 by omega)⟩
  · obtain ⟨t1, t2⟩ := ln_end (k := k) (ν := ν) (μ := μ) 0 ht
    unfold j_L_line_j0
    rw [hd μ, Option.bind_some]
    by_cases c0 : d < 0
    · rw [if_pos (show nI d < (0 : Int32) from nI_lt (b := 0) c0 (by decide)), if_pos c0, gckb t1, Option.bind_some, gckb t2, Option.bind_some, List.nil_append, lx1]
    · rw [if_neg (show ¬ nI d < (0 : Int32) from nI_nlt (b := 0) (by omega) (by omega)), if_neg c0, show (4000 : Int32) = nI 4000 from rfl, ea, Option.bind_some, eb, Option.bind_some, show (90 : Int32) = nI 90 from rfl, ec, Option.bind_some, ee, Option.bind_some, gck hkl (by omega)]
      simp (disch := omega) only [nI_clamp]
      rw [gckb hs, Option.bind_some]
      obtain ⟨g, hg⟩ : ∃ g, g = upd (upd (upd (upd (fun _ => (0 : Int32)) 0 (nI a)) 1 (nI b)) 2 ((1 : Int32) + nI c)) 3 ((1 : Int32) + nI e) := ⟨_, rfl⟩
      have eg : g = gS (y4 a b (1 + c) (1 + e)) := by
        rw [hg, show (1 : Int32) = nI 1 from rfl, nI_add, nI_add]
        rfl
      rw [← hg, eg]
      obtain ⟨w0, w1, w2, w3⟩ := gS_w (y4 a b (1 + c) (1 + e))
      rw [lg_row, lg_row, lg_row, lg_row, w0, w1, w2, w3]
      have l0 := sdig_l 3 a (by omega)
      have l1 := sdig_l 3 b (by omega)
      have l2 := sdig_l 3 (1 + c) (by omega)
      have l3 := sdig_l 3 (1 + e) (by omega)
      show Option.bind (some (nI a)) _ = _
      rw [Option.bind_some, show y4 a b (1 + c) (1 + e) 1 = b from rfl, show y4 a b (1 + c) (1 + e) 2 = 1 + c from rfl, show y4 a b (1 + c) (1 + e) 3 = 1 + e from rfl]
      simp only [Option.bind_some, List.nil_append, lx3]
      simp (disch := omega) only [nI_clamp]
      rw [gckb (by simp only [List.length_nil]; omega), gckb (by simp only [List.length_cons, List.length_nil]; omega), gckb ⟨gIn_nI (by omega) (by omega), by simp only [List.length_append, List.length_cons, List.length_nil]; omega⟩]
      rw [gckb (by simp only [List.length_append, List.length_cons, List.length_nil]; omega), gckb (by simp only [List.length_append, List.length_cons, List.length_nil]; omega), gckb ⟨gIn_nI (by omega) (by omega), by simp only [List.length_append, List.length_cons, List.length_nil]; omega⟩]
      rw [gckb (by simp only [List.length_append, List.length_cons, List.length_nil]; omega), gckb (by simp only [List.length_append, List.length_cons, List.length_nil]; omega), gckb ⟨gIn_nI (by omega) (by omega), by simp only [List.length_append, List.length_cons, List.length_nil]; omega⟩]
      rw [gckb (by simp only [List.length_append, List.length_cons, List.length_nil]; omega), gckb (by simp only [List.length_append, List.length_cons, List.length_nil]; omega), gckb ⟨gIn_nI (by omega) (by omega), by simp only [List.length_append, List.length_cons, List.length_nil]; omega⟩]
      congr 1
      unfold stT
      simp only [List.append_assoc, List.nil_append, List.cons_append, show y4 a b (1 + c) (1 + e) 0 = a from rfl, show y4 a b (1 + c) (1 + e) 1 = b from rfl, show y4 a b (1 + c) (1 + e) 2 = 1 + c from rfl, show y4 a b (1 + c) (1 + e) 3 = 1 + e from rfl]
theorem ln_s1 (hd : ∀ μ, f_L_mod (p2 >>> ((9 : Int32) &&& 31)) (3 : Int32) μ = some (nI d)) (hd3 : d < 3) : ∃ x : Nat → Nat, (∀ w, w < 4 → gdx w (x w) ∧ x w < 4100) ∧ ∀ (μ : gM) (k : Nat) (t9 : List Nat) (ν : gM), k < 11 → k < lLs ν → lLs ν ≤ 11 → lSz ν k = 1 → t9.length ≤ 960 → j_L_line_j1 (nI k) p2 t9 ν μ = if d < 1 then some (t9 ++ [59], ν) else j_L_line_j2 (nI k) p2 (t9 ++ stT x) (lgrow ν k (gS x)) μ := by
  obtain ⟨a, ha, ea⟩ := l_mod (p2 >>> ((1 : Int32) &&& 31)) (n := 4000) (by decide) (by decide)
  obtain ⟨b, hb, eb⟩ := l_mod (p2 >>> (((3 : Int32) + (1 : Int32)) &&& 31)) (n := 4000) (by decide) (by decide)
  obtain ⟨c, hc, ec⟩ := l_mod (p2 >>> (((11 : Int32) + (1 : Int32)) &&& 31)) (n := 90) (by decide) (by decide)
  obtain ⟨e, he, ee⟩ := l_mod (p2 >>> (((15 : Int32) + (1 : Int32)) &&& 31)) (n := 90) (by decide) (by decide)
  refine ⟨y4 a b (1 + c) (1 + e), fun w hw => ?_, fun μ k t9 ν hk hkl hl hs ht => ?_⟩
  · have h4 : w = 0 ∨ w = 1 ∨ w = 2 ∨ w = 3 := by omega
    unfold gdx
    rcases h4 with q | q | q | q <;> subst q
    · exact ⟨⟨fun _ => (show a ≤ 40000 by omega), fun w => absurd w (by decide)⟩, (show a < 4100 by omega)⟩
    · exact ⟨⟨fun _ => (show b ≤ 40000 by omega), fun w => absurd w (by decide)⟩, (show b < 4100 by omega)⟩
    · exact ⟨⟨fun w => absurd w (by decide), fun _ => (show 1 ≤ 1 + c ∧ 1 + c ≤ 100 by omega)⟩, (show 1 + c < 4100 by omega)⟩
    · exact ⟨⟨fun w => absurd w (by decide), fun _ => (show 1 ≤ 1 + e ∧ 1 + e ≤ 100 by omega)⟩, (show 1 + e < 4100 by omega)⟩
  · obtain ⟨t1, t2⟩ := ln_end (k := k) (ν := ν) (μ := μ) 1 ht
    unfold j_L_line_j1
    rw [hd μ, Option.bind_some]
    by_cases c0 : d < 1
    · rw [if_pos (show nI d < (1 : Int32) from nI_lt (b := 1) c0 (by decide)), if_pos c0, gckb t1, Option.bind_some, gckb t2, Option.bind_some, List.nil_append, lx1]
    · rw [if_neg (show ¬ nI d < (1 : Int32) from nI_nlt (b := 1) (by omega) (by omega)), if_neg c0, show (4000 : Int32) = nI 4000 from rfl, ea, Option.bind_some, eb, Option.bind_some, show (90 : Int32) = nI 90 from rfl, ec, Option.bind_some, ee, Option.bind_some, gck hkl (by omega)]
      simp (disch := omega) only [nI_clamp]
      rw [gckb ⟨by omega, by omega⟩, Option.bind_some]
      obtain ⟨g, hg⟩ : ∃ g, g = upd (upd (upd (upd (fun _ => (0 : Int32)) 0 (nI a)) 1 (nI b)) 2 ((1 : Int32) + nI c)) 3 ((1 : Int32) + nI e) := ⟨_, rfl⟩
      have eg : g = gS (y4 a b (1 + c) (1 + e)) := by
        rw [hg, show (1 : Int32) = nI 1 from rfl, nI_add, nI_add]
        rfl
      rw [← hg, eg]
      obtain ⟨w0, w1, w2, w3⟩ := gS_w (y4 a b (1 + c) (1 + e))
      rw [lg_row, lg_row, lg_row, lg_row, w0, w1, w2, w3]
      have l0 := sdig_l 3 a (by omega)
      have l1 := sdig_l 3 b (by omega)
      have l2 := sdig_l 3 (1 + c) (by omega)
      have l3 := sdig_l 3 (1 + e) (by omega)
      show Option.bind (some (nI a)) _ = _
      rw [Option.bind_some, show y4 a b (1 + c) (1 + e) 1 = b from rfl, show y4 a b (1 + c) (1 + e) 2 = 1 + c from rfl, show y4 a b (1 + c) (1 + e) 3 = 1 + e from rfl]
      simp only [Option.bind_some, List.nil_append, lx3]
      simp (disch := omega) only [nI_clamp]
      rw [gckb (by simp only [List.length_nil]; omega), gckb (by simp only [List.length_cons, List.length_nil]; omega), gckb ⟨gIn_nI (by omega) (by omega), by simp only [List.length_append, List.length_cons, List.length_nil]; omega⟩]
      rw [gckb (by simp only [List.length_append, List.length_cons, List.length_nil]; omega), gckb (by simp only [List.length_append, List.length_cons, List.length_nil]; omega), gckb ⟨gIn_nI (by omega) (by omega), by simp only [List.length_append, List.length_cons, List.length_nil]; omega⟩]
      rw [gckb (by simp only [List.length_append, List.length_cons, List.length_nil]; omega), gckb (by simp only [List.length_append, List.length_cons, List.length_nil]; omega), gckb ⟨gIn_nI (by omega) (by omega), by simp only [List.length_append, List.length_cons, List.length_nil]; omega⟩]
      rw [gckb (by simp only [List.length_append, List.length_cons, List.length_nil]; omega), gckb (by simp only [List.length_append, List.length_cons, List.length_nil]; omega), gckb ⟨gIn_nI (by omega) (by omega), by simp only [List.length_append, List.length_cons, List.length_nil]; omega⟩]
      congr 1
      unfold stT
      simp only [List.append_assoc, List.nil_append, List.cons_append, show y4 a b (1 + c) (1 + e) 0 = a from rfl, show y4 a b (1 + c) (1 + e) 1 = b from rfl, show y4 a b (1 + c) (1 + e) 2 = 1 + c from rfl, show y4 a b (1 + c) (1 + e) 3 = 1 + e from rfl]
theorem ln_s2 (hd : ∀ μ, f_L_mod (p2 >>> ((9 : Int32) &&& 31)) (3 : Int32) μ = some (nI d)) (hd3 : d < 3) : ∃ x : Nat → Nat, (∀ w, w < 4 → gdx w (x w) ∧ x w < 4100) ∧ ∀ (μ : gM) (k : Nat) (t9 : List Nat) (ν : gM), k < 11 → k < lLs ν → lLs ν ≤ 11 → lSz ν k = 2 → t9.length ≤ 960 → j_L_line_j2 (nI k) p2 t9 ν μ = if d < 2 then some (t9 ++ [59], ν) else j_L_line_j3 (nI k) p2 (t9 ++ stT x) (lgrow ν k (gS x)) μ := by
  obtain ⟨a, ha, ea⟩ := l_mod (p2 >>> ((2 : Int32) &&& 31)) (n := 4000) (by decide) (by decide)
  obtain ⟨b, hb, eb⟩ := l_mod (p2 >>> (((3 : Int32) + (2 : Int32)) &&& 31)) (n := 4000) (by decide) (by decide)
  obtain ⟨c, hc, ec⟩ := l_mod (p2 >>> (((11 : Int32) + (2 : Int32)) &&& 31)) (n := 90) (by decide) (by decide)
  obtain ⟨e, he, ee⟩ := l_mod (p2 >>> (((15 : Int32) + (2 : Int32)) &&& 31)) (n := 90) (by decide) (by decide)
  refine ⟨y4 a b (1 + c) (1 + e), fun w hw => ?_, fun μ k t9 ν hk hkl hl hs ht => ?_⟩
  · have h4 : w = 0 ∨ w = 1 ∨ w = 2 ∨ w = 3 := by omega
    unfold gdx
    rcases h4 with q | q | q | q <;> subst q
    · exact ⟨⟨fun _ => (show a ≤ 40000 by omega), fun w => absurd w (by decide)⟩, (show a < 4100 by omega)⟩
    · exact ⟨⟨fun _ => (show b ≤ 40000 by omega), fun w => absurd w (by decide)⟩, (show b < 4100 by omega)⟩
    · exact ⟨⟨fun w => absurd w (by decide), fun _ => (show 1 ≤ 1 + c ∧ 1 + c ≤ 100 by omega)⟩, (show 1 + c < 4100 by omega)⟩
    · exact ⟨⟨fun w => absurd w (by decide), fun _ => (show 1 ≤ 1 + e ∧ 1 + e ≤ 100 by omega)⟩, (show 1 + e < 4100 by omega)⟩
  · obtain ⟨t1, t2⟩ := ln_end (k := k) (ν := ν) (μ := μ) 2 ht
    unfold j_L_line_j2
    rw [hd μ, Option.bind_some]
    by_cases c0 : d < 2
    · rw [if_pos (show nI d < (2 : Int32) from nI_lt (b := 2) c0 (by decide)), if_pos c0, gckb t1, Option.bind_some, gckb t2, Option.bind_some, List.nil_append, lx1]
    · rw [if_neg (show ¬ nI d < (2 : Int32) from nI_nlt (b := 2) (by omega) (by omega)), if_neg c0, show (4000 : Int32) = nI 4000 from rfl, ea, Option.bind_some, eb, Option.bind_some, show (90 : Int32) = nI 90 from rfl, ec, Option.bind_some, ee, Option.bind_some, gck hkl (by omega)]
      simp (disch := omega) only [nI_clamp]
      rw [gckb ⟨by omega, by omega⟩, Option.bind_some]
      obtain ⟨g, hg⟩ : ∃ g, g = upd (upd (upd (upd (fun _ => (0 : Int32)) 0 (nI a)) 1 (nI b)) 2 ((1 : Int32) + nI c)) 3 ((1 : Int32) + nI e) := ⟨_, rfl⟩
      have eg : g = gS (y4 a b (1 + c) (1 + e)) := by
        rw [hg, show (1 : Int32) = nI 1 from rfl, nI_add, nI_add]
        rfl
      rw [← hg, eg]
      obtain ⟨w0, w1, w2, w3⟩ := gS_w (y4 a b (1 + c) (1 + e))
      rw [lg_row, lg_row, lg_row, lg_row, w0, w1, w2, w3]
      have l0 := sdig_l 3 a (by omega)
      have l1 := sdig_l 3 b (by omega)
      have l2 := sdig_l 3 (1 + c) (by omega)
      have l3 := sdig_l 3 (1 + e) (by omega)
      show Option.bind (some (nI a)) _ = _
      rw [Option.bind_some, show y4 a b (1 + c) (1 + e) 1 = b from rfl, show y4 a b (1 + c) (1 + e) 2 = 1 + c from rfl, show y4 a b (1 + c) (1 + e) 3 = 1 + e from rfl]
      simp only [Option.bind_some, List.nil_append, lx3]
      simp (disch := omega) only [nI_clamp]
      rw [gckb (by simp only [List.length_nil]; omega), gckb (by simp only [List.length_cons, List.length_nil]; omega), gckb ⟨gIn_nI (by omega) (by omega), by simp only [List.length_append, List.length_cons, List.length_nil]; omega⟩]
      rw [gckb (by simp only [List.length_append, List.length_cons, List.length_nil]; omega), gckb (by simp only [List.length_append, List.length_cons, List.length_nil]; omega), gckb ⟨gIn_nI (by omega) (by omega), by simp only [List.length_append, List.length_cons, List.length_nil]; omega⟩]
      rw [gckb (by simp only [List.length_append, List.length_cons, List.length_nil]; omega), gckb (by simp only [List.length_append, List.length_cons, List.length_nil]; omega), gckb ⟨gIn_nI (by omega) (by omega), by simp only [List.length_append, List.length_cons, List.length_nil]; omega⟩]
      rw [gckb (by simp only [List.length_append, List.length_cons, List.length_nil]; omega), gckb (by simp only [List.length_append, List.length_cons, List.length_nil]; omega), gckb ⟨gIn_nI (by omega) (by omega), by simp only [List.length_append, List.length_cons, List.length_nil]; omega⟩]
      congr 1
      unfold stT
      simp only [List.append_assoc, List.nil_append, List.cons_append, show y4 a b (1 + c) (1 + e) 0 = a from rfl, show y4 a b (1 + c) (1 + e) 1 = b from rfl, show y4 a b (1 + c) (1 + e) 2 = 1 + c from rfl, show y4 a b (1 + c) (1 + e) 3 = 1 + e from rfl]
theorem ln_s3 (hd : ∀ μ, f_L_mod (p2 >>> ((9 : Int32) &&& 31)) (3 : Int32) μ = some (nI d)) (hd3 : d < 3) (μ : gM) (k : Nat) (t9 : List Nat) (ν : gM) (ht : t9.length ≤ 960) : j_L_line_j3 (nI k) p2 t9 ν μ = some (t9 ++ [59], ν) := by
  obtain ⟨t1, t2⟩ := ln_end (k := k) (ν := ν) (μ := μ) 3 ht
  unfold j_L_line_j3
  rw [hd μ, Option.bind_some, gckb (show nI d < (3 : Int32) from nI_lt (b := 3) hd3 (by decide)), gckb t1, Option.bind_some, gckb t2, Option.bind_some, List.nil_append, lx1]
end SET

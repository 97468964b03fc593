/-! the law's numbers beside the class's -/
def LM (v : Nat → Nat → Int32) (ν : gM) : Prop :=
  (gi ν 0 1 = nI (nP v) ∧ gi ν 0 2 = nI (nN v) ∧ nP v ≤ 8 ∧ 2 ≤ nP v ∧ nN v ≤ 11 ∧ 1 ≤ nN v ∧ nL v = 2 ∧ nT v = 0) ∧ gi ν 8 0 = v 1 0 ∧ (∀ l, l < 2 → gi ν 1 l = v 3 l) ∧ (∀ p, p < nP v → gi ν 2 p = v 5 p) ∧
  (∀ k, k < nN v → gi ν (20 + k) 0 = v 6 k ∧ gi ν (20 + k) 1 = v 7 k ∧ gi ν 4 k = v 8 k ∧ gi ν 5 k = (if (nA v).testBit k = true then 1 else 0) ∧ gi ν (40 + k) 2 = v 9 k ∧ ∀ s, s < ct v k → ∀ w, w < 4 → gi ν (100 + 8 * k + s) w = v 10 (32 * k + 4 * s + w)) ∧ lS ν ∧ lF ν
section LMS
variable {v : Nat → Nat → Int32} {ν μ : gM} {k : Nat}
theorem LM.b (M : LM v ν) : nP v ≤ 8 ∧ 2 ≤ nP v ∧ nN v ≤ 11 ∧ 1 ≤ nN v ∧ nL v = 2 ∧ nT v = 0 := M.1.2.2
theorem LM.P (M : LM v ν) : gi ν 0 1 = nI (nP v) := M.1.1
theorem LM.N (M : LM v ν) : gi ν 0 2 = nI (nN v) := M.1.2.1
theorem LM.lp (M : LM v ν) : lPt ν = nP v := by unfold lPt; rw [M.P]; exact nI_clamp (by have := M.b; omega)
theorem LM.ll (M : LM v ν) : lLn ν = nN v := by unfold lLn; rw [M.N]; exact nI_clamp (by have := M.b; omega)
theorem LM.kk (M : LM v ν) (hk : k < nN v) : gi ν (20 + k) 0 = v 6 k ∧ gi ν (20 + k) 1 = v 7 k ∧ gi ν 4 k = v 8 k ∧ gi ν 5 k = (if (nA v).testBit k = true then 1 else 0) ∧ gi ν (40 + k) 2 = v 9 k ∧ ∀ s, s < ct v k → ∀ w, w < 4 → gi ν (100 + 8 * k + s) w = v 10 (32 * k + 4 * s + w) := M.2.2.2.2.1 k hk
theorem LM.sz (M : LM v ν) (hk : k < nN v) : lSz ν k = ct v k := by unfold lSz; rw [(M.kk hk).2.2.2.2.1]; rfl
theorem LM.f (C : CI v) (M : LM v ν) (hk : k < nN v) : gi ν (20 + k) 0 = nI (fs v k) := (M.kk hk).1.trans (C.line hk).1
theorem LM.s (C : CI v) (M : LM v ν) (hk : k < nN v) : gi ν (20 + k) 1 = nI (sn v k) := (M.kk hk).2.1.trans (C.line hk).2.1
theorem CI.lvb (C : CI v) (hk : k < nN v) : v 8 k = nI (lv v k) ∧ lv v k < nL v := ⟨(C.line hk).2.2.2.2.2.1, (C.line hk).2.2.2.2.2.2.1⟩
theorem LM.l (C : CI v) (M : LM v ν) (hk : k < nN v) : gi ν 4 k = nI (lv v k) := (M.kk hk).2.2.1.trans (C.lvb hk).1
theorem LM.a (M : LM v ν) (hk : k < nN v) : gi ν 5 k = (if (nA v).testBit k = true then 1 else 0) := (M.kk hk).2.2.2.1
theorem LM.a0 (M : LM v ν) (hk : k < nN v) : (gi ν 5 k = 0) ↔ ¬ (nA v).testBit k = true := by
  rw [M.a hk]
  by_cases c : (nA v).testBit k = true
  · rw [if_pos c]; exact ⟨fun h => absurd h (by decide), fun h => absurd c h⟩
  · rw [if_neg c]; exact ⟨fun _ => c, fun _ => rfl⟩
theorem LM.rr (M : LM v ν) (hk : k < nN v) {s : Nat} (hs : s < ct v k) {w : Nat} (hw : w < 4) : gi ν (100 + 8 * k + s) w = v 10 (32 * k + 4 * s + w) := (M.kk hk).2.2.2.2.2 s hs w hw
theorem LM.rd (C : CI v) (M : LM v ν) (hk : k < nN v) {s : Nat} (hs : s < ct v k) {w : Nat} (hw : w < 4) : gi ν (100 + 8 * k + s) w = nI (rd v k s w) := (M.rr hk hs hw).trans ((C.line hk).rdd hs hw).1
theorem LM.h (M : LM v ν) {p : Nat} (hp : p < nP v) : gi ν 2 p = v 5 p := M.2.2.2.1 p hp
theorem LM.c (M : LM v ν) {l : Nat} (hl : l < 2) : gi ν 1 l = v 3 l := M.2.2.1 l hl
theorem LM.t (M : LM v ν) : gi ν 8 0 = v 1 0 := M.2.1
theorem gk {α : Type} {x : Option α} {b : Prop} {inst : Decidable b} (h : b) : @gchk α b inst x = x := if_pos h
theorem b2i_lt {a b : Nat} (h : a < b) : ¬ b2i (decide (a < b)) = 0 := fun w => (b2i_z.mp w) h
theorem b2i_nl {a b : Nat} (h : ¬ a < b) : b2i (decide (a < b)) = 0 := b2i_z.mpr h
theorem l_length (C : CI v) (M : LM v ν) (hk : k < nN v) : f_L_length (nI k) ν μ = some (nI (ln v k)) := by
  have hb := M.b
  have hc := (C.line hk).cnt
  unfold f_L_length
  rw [M.ll, gck hk (by omega), nI_clamp (by omega)]
  have h : gloop (fun t => b_L_length_17 t.1 t.2.1 t.2.2.1 t.2.2.2 ν μ) 9 ((0 : Int32), k, 0, (-1)) = some (nI (ln v k)) := by
    refine gloop_run (fun i => (nI (sm v k 2 i + sm v k 3 i), k, i, if i = 0 then -1 else nI (i - 1))) (ct v k) (fun i hi => ?_) ?_ 9 (by omega)
    · show b_L_length_17 (nI (sm v k 2 i + sm v k 3 i)) k i _ ν μ = _
      unfold b_L_length_17
      rw [M.ll, M.sz hk, gk ⟨hk, by omega⟩, if_neg (b2i_lt hi), gk ⟨hk, hi⟩, M.rd C hk hi (by decide), M.rd C hk hi (by decide), nI_add, nI_add]
      show some (Sum.inl (nI (sm v k 2 i + sm v k 3 i + (rd v k i 2 + rd v k i 3)), k, i + 1, nI i)) = some (Sum.inl (nI ((sm v k 2 i + rd v k i 2) + (sm v k 3 i + rd v k i 3)), k, i + 1, nI i))
      rw [show sm v k 2 i + sm v k 3 i + (rd v k i 2 + rd v k i 3) = (sm v k 2 i + rd v k i 2) + (sm v k 3 i + rd v k i 3) by omega]
    · show b_L_length_17 (nI (sm v k 2 (ct v k) + sm v k 3 (ct v k))) k (ct v k) _ ν μ = _
      unfold b_L_length_17
      rw [M.ll, M.sz hk, gk ⟨hk, Nat.le_refl _⟩, if_pos (b2i_nl (Nat.lt_irrefl _))]
      rfl
  rw [h]; rfl
theorem l_rise (C : CI v) (M : LM v ν) (hk : k < nN v) : f_L_rise (nI k) ν μ = some (ris v k) := by
  have hb := M.b
  have hc := (C.line hk).cnt
  have hl := (C.lvb hk).2
  unfold f_L_rise
  rw [M.ll, gck hk (by omega), nI_clamp (by omega)]
  have h : gloop (fun t => b_L_rise_17 (nI k) t.1 t.2.1 t.2.2.1 t.2.2.2 ν μ) 9 ((0 : Int32), k, 0, (-1)) = some (ris v k) := by
    refine gloop_run (fun i => (rsm v k i, k, i, if i = 0 then -1 else nI (i - 1))) (ct v k) (fun i hi => ?_) ?_ 9 (by omega)
    · show b_L_rise_17 (nI k) (rsm v k i) k i _ ν μ = _
      unfold b_L_rise_17
      rw [M.ll, M.sz hk, gk ⟨hk, by omega⟩, if_neg (b2i_lt hi), gk ⟨hk, hi⟩, gck hk (by omega), nI_clamp (by omega), M.l C hk, gck (by omega) (by decide), nI_clamp (by omega), M.c (by omega), M.rr hk hi (by decide), M.rr hk hi (by decide), M.rr hk hi (by decide), M.rr hk hi (by decide)]
      rfl
    · show b_L_rise_17 (nI k) (rsm v k (ct v k)) k (ct v k) _ ν μ = _
      unfold b_L_rise_17
      rw [M.ll, M.sz hk, gk ⟨hk, Nat.le_refl _⟩, if_pos (b2i_nl (Nat.lt_irrefl _))]
      rfl
  rw [h]; rfl
/-! the class's answers that throw no more -/
theorem need_ok {a n : Nat} (hn : n < 2 ^ 31) (h : a < n) : f_X7_needIndex (nI a) (nI n) μ = some () := by
  unfold f_X7_needIndex
  rw [ixG hn h]
  rfl
theorem q_riseOf (C : CO v μ) (hk : k < nN v) : f_X7_riseOf (nI k) μ = some (ris v k) := by
  have hb := C.1.b
  unfold f_X7_riseOf
  rw [C.N, need_ok (by omega) hk, Option.bind_some, c_lineRise C hk]
  rfl
theorem q_has (C : CO v μ) (hk : k < nN v) {s : Nat} (hs : s < ct v k) : f_X3_hasSetup (nI k) (nI s) μ = some true := by
  have hc := (C.1.line hk).cnt
  rw [c_has C hk, ixG (by omega) hs]
theorem q_stepOf (C : CO v μ) (hk : k < nN v) {s : Nat} (hs : s < ct v k) : f_X7_stepOf (nI k) (nI s) μ = some (stp v k s) := by
  have hb := C.1.b
  unfold f_X7_stepOf
  rw [C.N, need_ok (by omega) hk, Option.bind_some, q_has C hk hs, Option.bind_some, if_neg (by decide), c_setupRise C hk hs]
  rfl
theorem q_lp0 (C : CO v μ) (hk : k < nN v) : f_X7_lineProperty (nI k) (0 : Int32) μ = some (v 6 k) := by
  have hb := C.1.b
  unfold f_X7_lineProperty
  rw [C.N, need_ok (by omega) hk, Option.bind_some, if_pos rfl, gck (by omega) (by decide), nI_clamp (by omega)]
  exact congrArg some (C.at 6 k (by decide))
theorem q_lp1 (C : CO v μ) (hk : k < nN v) : f_X7_lineProperty (nI k) (1 : Int32) μ = some (v 7 k) := by
  have hb := C.1.b
  unfold f_X7_lineProperty
  rw [C.N, need_ok (by omega) hk, Option.bind_some, if_neg (by decide), if_pos rfl, gck (by omega) (by decide), nI_clamp (by omega)]
  exact congrArg some (C.at 7 k (by decide))
theorem q_lp3 (C : CO v μ) (hk : k < nN v) : f_X7_lineProperty (nI k) (3 : Int32) μ = some (nI (ct v k)) := by
  have hb := C.1.b
  unfold f_X7_lineProperty
  rw [C.N, need_ok (by omega) hk, Option.bind_some, if_neg (by decide), if_neg (by decide), if_neg (by decide), if_pos rfl, gck (by omega) (by decide), nI_clamp (by omega)]
  exact congrArg some (c_ct C hk)
theorem q_lp4 (C : CO v μ) (hk : k < nN v) : f_X7_lineProperty (nI k) (4 : Int32) μ = some (if (nA v).testBit k = true then 1 else 0) := by
  have hb := C.1.b
  unfold f_X7_lineProperty
  rw [C.N, need_ok (by omega) hk, Option.bind_some, if_neg (by decide), if_neg (by decide), if_neg (by decide), if_neg (by decide), if_pos rfl, c_isActive C hk, Option.bind_some]
  cases (nA v).testBit k <;> rfl
theorem q_lp5 (C : CO v μ) (hk : k < nN v) : f_X7_lineProperty (nI k) (5 : Int32) μ = some (nI (ln v k)) := by
  have hb := C.1.b
  unfold f_X7_lineProperty
  rw [C.N, need_ok (by omega) hk, Option.bind_some, if_neg (by decide), if_neg (by decide), if_neg (by decide), if_neg (by decide), if_neg (by decide), if_pos rfl, c_lineLength C hk]
  rfl
theorem q_lp6 (C : CO v μ) (hk : k < nN v) : f_X7_lineProperty (nI k) (6 : Int32) μ = some (nI (1000000 / ln v k)) := by
  have hb := C.1.b
  unfold f_X7_lineProperty
  rw [C.N, need_ok (by omega) hk, Option.bind_some, if_neg (by decide), if_neg (by decide), if_neg (by decide), if_neg (by decide), if_neg (by decide), if_neg (by decide), if_pos rfl, c_lineWeight C hk]
  rfl
theorem l_w (C : CI v) (hk : k < nN v) : (1000000 : Int32) / nI (ln v k) = nI (1000000 / ln v k) := pk_div (a := 1000000) (by decide) (by have := (C.line hk).lnb; omega) (by have := (C.line hk).lnb; omega)
theorem l_lines (Co : CO v μ) (M : LM v ν) : f_L_areLines ν μ = some (true, μ) := by
  have C := Co.1
  have hb := M.b
  unfold f_L_areLines
  have h : gloop (fun t => b_L_areLines_2 t ν μ) 12 (0 : Int32) = some (.inl ()) := by
    refine gloop_run (fun i => nI i) (nN v) (fun k hk => ?_) ?_ 12 (by omega)
    · show b_L_areLines_2 (nI k) ν μ = some (.inl (nI (k + 1)))
      have hc := (C.line hk).cnt
      have hl := (C.line hk).lnb
      have h2 : ∀ x y : Int32, x = y → j_L_areLines_155 (nI k) x y ν μ = some (.inl (nI (k + 1))) := fun x y e => by
        unfold j_L_areLines_155
        rw [if_pos e]
        have h3 : gloop (fun t => b_L_areLines_164 (nI k) t.1 t.2 ν μ) 9 ((0 : Int32), (0 : Int32)) = some (ris v k) := by
          refine gloop_run (fun i => (rsm v k i, nI i)) (ct v k) (fun i hi => ?_) ?_ 9 (by omega)
          · show b_L_areLines_164 (nI k) (rsm v k i) (nI i) ν μ = _
            unfold b_L_areLines_164
            rw [M.ll, gck hk (by omega), nI_clamp (by omega), M.sz hk, if_neg (nI_ge hi (by omega)), q_stepOf Co hk hi, Option.bind_some, nI_1]
            rfl
          · show b_L_areLines_164 (nI k) (rsm v k (ct v k)) (nI (ct v k)) ν μ = _
            unfold b_L_areLines_164
            rw [M.ll, gck hk (by omega), nI_clamp (by omega), M.sz hk, if_pos (nI_le (Nat.le_refl _) (by omega))]
            rfl
        rw [h3, Option.bind_some, l_rise C M hk, Option.bind_some, if_pos rfl, nI_1]
      unfold b_L_areLines_2
      rw [M.N, if_neg (nI_ge hk (by omega)), q_riseOf Co hk, Option.bind_some, l_rise C M hk, Option.bind_some, if_pos rfl, q_lp5 Co hk, Option.bind_some, l_length C M hk, Option.bind_some, if_pos rfl, q_lp6 Co hk, Option.bind_some, Option.bind_some, gk (nI_ne0 (by omega) (by omega)), if_pos (l_w C hk).symm, q_lp3 Co hk, Option.bind_some,
        M.ll, gck hk (by omega)]
      simp (disch := omega) only [nI_clamp]
      rw [M.sz hk, if_pos rfl, q_lp0 Co hk, Option.bind_some, gck hk (by omega), if_pos (M.kk hk).1.symm, q_lp1 Co hk, Option.bind_some, gck hk (by omega), if_pos (M.kk hk).2.1.symm, q_lp4 Co hk, Option.bind_some, gck hk (by omega)]
      by_cases c : (nA v).testBit k = true
      · rw [if_neg (fun w => (M.a0 hk).mp w c), if_pos c]; exact h2 _ _ rfl
      · rw [if_pos ((M.a0 hk).mpr c), if_neg c]; exact h2 _ _ rfl
    · show b_L_areLines_2 (nI (nN v)) ν μ = _
      unfold b_L_areLines_2
      rw [M.N, if_pos (nI_le (Nat.le_refl _) (by omega))]
  rw [h]; rfl
end LMS

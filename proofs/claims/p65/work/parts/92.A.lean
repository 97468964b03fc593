/-! the law lays everything down: its text is read back as its network -/
section INI
def cN (c : Int32) : Nat × Bool := (c.toInt.natAbs, decide (c.toInt < 0))
theorem cN_v {c : Int32} (h : -200 ≤ c.toInt ∧ c.toInt ≤ 200) : clV (cN c) = c ∧ iabs c = nI (cN c).1 ∧ (cN c).1 ≤ 200 ∧ ((0 ≤ c) ↔ (cN c).2 = false) := by
  have z : (0 : Int32).toInt = 0 := by decide
  have hb : c.toInt.natAbs ≤ 200 := by omega
  refine ⟨?_, Int32.toInt_inj.mp ?_, hb, ?_⟩
  · unfold clV cN
    by_cases d : c.toInt < 0
    · rw [decide_eq_true d, if_pos rfl]
      refine Int32.toInt_inj.mp ?_
      rw [i32_neg (by rw [nI_toInt (by omega)]; omega), nI_toInt (by omega)]
      omega
    · rw [decide_eq_false d, if_neg (show ¬ false = true by decide)]
      refine Int32.toInt_inj.mp ?_
      rw [nI_toInt (by omega)]
      omega
  · show (iabs c).toInt = (nI c.toInt.natAbs).toInt
    rw [iabs_toInt (by omega), nI_toInt (by omega)]
  · show (0 ≤ c) ↔ decide (c.toInt < 0) = false
    rw [decide_eq_false_iff_not, Int32.le_iff_toInt_le, z]
    omega
def lvT (l : Nat) (c : Nat × Bool) : List Nat := kLevel ++ (32 :: ([108, 97 + l] ++ (32 :: (sdig c.1 ++ xLt c.2 []))))
theorem lvT_l {l : Nat} {c : Nat × Bool} (h : c.1 ≤ 200) : (lvT l c).length ≤ 18 := by
  have := sdig_l 2 c.1 (by omega)
  unfold lvT xLt
  cases c.2
  · simp only [List.length_append, List.length_cons, List.length_nil, kLevel, if_neg (show ¬ false = true by decide)]; omega
  · simp only [List.length_append, List.length_cons, List.length_nil, kLevel, kDown, if_pos]; omega
theorem i225 {xs : Nat → Int32} {t9 : List Nat} {ν μ : gM} (ht : t9.length ≤ 60) (hc : -200 ≤ (gi ν 1 1).toInt ∧ (gi ν 1 1).toInt ≤ 200) : j_Ln_225_1 xs t9 ν μ = j_Ln_300 xs (t9 ++ lvT 1 (cN (gi ν 1 1))) ν μ := by
  obtain ⟨c1, c2, c3, c4⟩ := cN_v hc
  have ls := sdig_l 2 (cN (gi ν 1 1)).1 (by omega)
  unfold j_Ln_225_1
  rw [c2]
  simp (disch := omega) only [nI_clamp]
  simp only [Option.bind_some, List.nil_append, lx1, lx2, lx3, lx4, show ((97 : Int32) + (1 : Int32)).toNatClampNeg = 98 from rfl]
  rw [gckb (by simp only [List.length_nil]; omega), gckb (by simp only [List.length_append, List.length_cons, List.length_nil, kLevel]; omega), gckb (by decide), gckb ⟨by decide, by simp only [List.length_append, List.length_cons, List.length_nil, kLevel]; omega⟩, gckb (by simp only [List.length_append, List.length_cons, List.length_nil, kLevel]; omega), gckb ⟨gIn_nI (by omega) (by omega), by simp only [List.length_append, List.length_cons, List.length_nil, kLevel]; omega⟩]
  by_cases d : (cN (gi ν 1 1)).2 = false
  · rw [if_pos (c4.mpr d), gckb (by simp only [List.length_append, List.length_cons, List.length_nil, kLevel]; omega)]
    unfold lvT xLt
    rw [d, if_neg (by decide)]
    simp only [List.append_assoc, List.cons_append, List.nil_append]
  · have d2 : (cN (gi ν 1 1)).2 = true := (Bool.eq_false_or_eq_true _).resolve_right d
    rw [if_neg (fun w => d (c4.mp w)), gckb (by simp only [List.length_append, List.length_cons, List.length_nil, kLevel, kDown]; omega)]
    unfold lvT xLt
    rw [d2, if_pos rfl]
    simp only [List.append_assoc, List.cons_append, List.nil_append]
def stT0 (t : Nat) : List Nat := kSet ++ (32 :: (kTol ++ (32 :: (sdig t ++ [59]))))
theorem i193 {xs : Nat → Int32} {ν μ : gM} {t : Nat} (h8 : gi ν 8 0 = nI t) (ht : t ≤ 200) (hc : -200 ≤ (gi ν 1 0).toInt ∧ (gi ν 1 0).toInt ≤ 200) (hc1 : -200 ≤ (gi ν 1 1).toInt ∧ (gi ν 1 1).toInt ≤ 200) : j_Ln_193 xs ν μ = j_Ln_300 xs ((stT0 t ++ lvT 0 (cN (gi ν 1 0))) ++ lvT 1 (cN (gi ν 1 1))) ν μ := by
  obtain ⟨c1, c2, c3, c4⟩ := cN_v hc
  have ls := sdig_l 2 (cN (gi ν 1 0)).1 (by omega)
  have lt := sdig_l 2 t (by omega)
  have l0 := lvT_l (l := 0) c3
  have lS : (stT0 t).length ≤ 18 := by
    unfold stT0
    simp only [List.length_append, List.length_cons, List.length_nil, kSet, kTol]; omega
  rw [← i225 (t9 := stT0 t ++ lvT 0 (cN (gi ν 1 0))) (by rw [List.length_append]; omega) hc1]
  unfold j_Ln_193
  rw [c2, h8]
  simp (disch := omega) only [nI_clamp]
  simp only [Option.bind_some, List.nil_append, lx0, lx1, lx2, lx3, lx4, show ((97 : Int32) + (0 : Int32)).toNatClampNeg = 97 from rfl]
  rw [gckb (by decide), gckb ⟨gIn_nI (by omega) (by omega), by simp only [List.length_append, List.length_cons, List.length_nil, kSet, kTol]; omega⟩, gckb (by simp only [List.length_append, List.length_cons, List.length_nil, kSet, kTol]; omega), gckb (by simp only [List.length_append, List.length_cons, List.length_nil, kSet, kTol]; omega), gckb (by simp only [List.length_append, List.length_cons, List.length_nil, kSet, kTol, kLevel]; omega), gckb (by decide), gckb ⟨by decide, by simp only [List.length_append, List.length_cons, List.length_nil, kSet, kTol, kLevel]; omega⟩, gckb (by simp only [List.length_append, List.length_cons, List.length_nil, kSet, kTol, kLevel]; omega), gckb ⟨gIn_nI (by omega) (by omega), by simp only [List.length_append, List.length_cons, List.length_nil, kSet, kTol, kLevel]; omega⟩]
  by_cases d : (cN (gi ν 1 0)).2 = false
  · rw [if_pos (c4.mpr d), gckb (by simp only [List.length_append, List.length_cons, List.length_nil, kSet, kTol, kLevel]; omega)]
    unfold lvT xLt stT0
    rw [d, if_neg (by decide)]
    simp only [List.append_assoc, List.cons_append, List.nil_append]
  · have d2 : (cN (gi ν 1 0)).2 = true := (Bool.eq_false_or_eq_true _).resolve_right d
    rw [if_neg (fun w => d (c4.mp w)), gckb (by simp only [List.length_append, List.length_cons, List.length_nil, kSet, kTol, kLevel, kDown]; omega)]
    unfold lvT xLt stT0
    rw [d2, if_pos rfl]
    simp only [List.append_assoc, List.cons_append, List.nil_append]
theorem sd128 {v x : Nat} (h : x ∈ sdig v) : x < 128 := by
  have := sdig_d v x h
  unfold dg1 at this; omega
theorem xLt_app {b : Bool} {R : List Nat} : xLt b R = xLt b [] ++ R := by
  cases b
  · rfl
  · unfold xLt
    simp only [if_pos, List.append_assoc, List.cons_append, List.nil_append]
theorem fa_app {A B : List Nat} (a : ∀ x, x ∈ A → x < 128) (b : ∀ x, x ∈ B → x < 128) : ∀ x, x ∈ A ++ B → x < 128 := fun x hx => (List.mem_append.mp hx).elim (a x) (b x)
theorem fa_cons {y : Nat} {L : List Nat} (a : y < 128) (b : ∀ x, x ∈ L → x < 128) : ∀ x, x ∈ y :: L → x < 128 := fun x hx => (List.mem_cons.mp hx).elim (fun h => by rw [h]; exact a) (b x)
theorem fa_nil : ∀ x, x ∈ ([] : List Nat) → x < 128 := fun x hx => by cases hx
theorem fa_sd {v : Nat} : ∀ x, x ∈ sdig v → x < 128 := fun x h => sd128 h
theorem b_lv {l : Nat} {c : Nat × Bool} (hl : l < 20) : ∀ x, x ∈ lvT l c → x < 128 := by
  unfold lvT xLt
  refine fa_app (by decide) (fa_cons (by decide) (fa_app (fa_cons (by decide) (fa_cons (by omega) fa_nil)) (fa_cons (by decide) (fa_app fa_sd ?_))))
  cases c.2
  · exact fa_cons (by decide) fa_nil
  · exact fa_cons (by decide) (fa_app (by decide) (fa_cons (by decide) fa_nil))
theorem b_st {t : Nat} : ∀ x, x ∈ stT0 t → x < 128 := fa_app (by decide) (fa_cons (by decide) (fa_app (by decide) (fa_cons (by decide) (fa_app fa_sd (fa_cons (by decide) fa_nil)))))
theorem b_pt {p : Nat} {o : Option Nat} (hp : p < 20) : ∀ x, x ∈ ptT p o → x < 128 := by
  unfold ptT xPo
  refine fa_app (by decide) (fa_cons (by decide) (fa_app (fa_cons (by decide) (fa_cons (by omega) fa_nil)) ?_))
  cases o
  · exact fa_cons (by decide) fa_nil
  · exact fa_cons (by decide) (fa_app fa_sd (fa_cons (by decide) fa_nil))
theorem b_pts {ho : Nat → Option Nat} : ∀ p, p ≤ 16 → ∀ x, x ∈ ptsT ho p → x < 128
  | 0, _ => fa_nil
  | p + 1, h => fa_app (b_pts p (by omega)) (b_pt (by omega))
theorem b_sN {x : Nat → Nat → Nat} : ∀ n, ∀ y, y ∈ stN x n → y < 128
  | 0 => fa_nil
  | n + 1 => fa_app (b_sN n) (fa_cons (by decide) (fa_app fa_sd (fa_cons (by decide) (fa_app fa_sd (fa_cons (by decide) (fa_app fa_sd (fa_cons (by decide) fa_sd)))))))
theorem b_ln {P : Nat} {y : LY} (hP : P ≤ 8) (h : LYok P y) : ∀ x, x ∈ lnT y → x < 128 := by
  obtain ⟨h1, h2, -, h4, -⟩ := h
  unfold lnT lnH
  exact fa_app (fa_app (by decide) (fa_cons (by decide) (fa_app (fa_cons (by decide) (fa_cons (by omega) fa_nil)) (fa_cons (by decide) (fa_app (fa_cons (by decide) (fa_cons (by omega) fa_nil)) (fa_cons (by decide) (fa_cons (by decide) (fa_cons (by omega) fa_nil)))))))) (fa_app (b_sN _) (fa_cons (by decide) fa_nil))
theorem b_lns {P : Nat} {Y : Nat → LY} (hP : P ≤ 8) (h : ∀ k, LYok P (Y k)) : ∀ k, ∀ x, x ∈ lnsT Y k → x < 128
  | 0 => fa_nil
  | k + 1 => fa_app (b_lns hP h k) (b_ln hP (h k))
end INI

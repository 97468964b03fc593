/-! tree lines, loops counted, lines switched -/
theorem setN {x : Int32} {n : Nat} (hn : n ≤ 31) (h : ∀ i, i < 32 → n ≤ i → bt x i = false) : ∃ A, x = nI A ∧ A < 2 ^ n ∧ ∀ i, i < 32 → A.testBit i = bt x i := by
  obtain ⟨a, ha⟩ : ∃ a, a = x.toBitVec.toNat := ⟨_, rfl⟩
  have ha32 : a < 2 ^ 32 := by rw [ha]; exact x.toBitVec.isLt
  have hx : x = nI a := by
    refine Int32.toBitVec_inj.mp ?_
    show _ = BitVec.ofNat 32 a
    rw [ha]; simp
  have tb : ∀ i, i < 32 → bt x i = a.testBit i := fun i hi => by rw [hx]; exact b_nI ha32 hi
  refine ⟨a, hx, Nat.lt_pow_two_of_testBit a (fun i hi => ?_), fun i hi => (tb i hi).symm⟩
  by_cases c : i < 32
  · rw [← tb i c]; exact h i c hi
  · exact Nat.testBit_lt_two_pow (Nat.lt_of_lt_of_le ha32 (Nat.pow_le_pow_right (by decide) (by omega)))
theorem tb_out {A n i : Nat} (h : A < 2 ^ n) (hi : n ≤ i) : A.testBit i = false := Nat.testBit_lt_two_pow (Nat.lt_of_lt_of_le h (Nat.pow_le_pow_right (by decide) hi))
theorem b_own {A : Nat} {b : Int32} (hA : A < 2 ^ 31) {i : Nat} (hi : i < 32) : bt (nI A &&& (b ^^^ (-1 : Int32))) i = (A.testBit i && !bt b i) := by
  rw [b_and, b_xor, b_m1 i hi, b_nI (by omega) hi, Bool.xor_true]
theorem lpB_b {A : Nat} {b : Int32} (hA : A < 2 ^ 31) {i : Nat} (hi : i < 32) : bt (nI A &&& (b ^^^ (-1 : Int32))) i = true ↔ lpB A b i := by
  rw [b_own hA hi, Bool.and_eq_true, Bool.not_eq_true']
theorem pcn_lc {A : Nat} {b : Int32} (hA : A < 2 ^ 31) : ∀ k, k ≤ 32 → pcn (nI A &&& (b ^^^ (-1 : Int32))) k = lc A b k
  | 0, _ => rfl
  | k + 1, hk => by
    show pcn _ k + (if bt (nI A &&& (b ^^^ (-1 : Int32))) k = true then 1 else 0) = if lpB A b k then lc A b k + 1 else lc A b k
    rw [pcn_lc hA k (by omega)]
    by_cases c : lpB A b k
    · rw [if_pos c, if_pos ((lpB_b hA (by omega)).mpr c)]
    · rw [if_neg c, if_neg (fun w => c ((lpB_b hA (by omega)).mp w)), Nat.add_zero]
theorem lc_out {A n : Nat} {b : Int32} (h : A < 2 ^ n) : ∀ i, lc A b (n + i) = lc A b n
  | 0 => rfl
  | i + 1 => by
    show (if lpB A b (n + i) then lc A b (n + i) + 1 else lc A b (n + i)) = _
    rw [if_neg (fun w => by have := w.1; rw [tb_out h (by omega)] at this; cases this)]
    exact lc_out h i
theorem own_cnt {A n : Nat} {b : Int32} (hn : n ≤ 20) (h : A < 2 ^ n) (μ : gM) : f_J6_bitCount_0f7a4 (nI A &&& (b ^^^ (-1 : Int32))) μ = some (nI (lc A b n)) := by
  have h31 : A < 2 ^ 31 := Nat.lt_of_lt_of_le h (Nat.pow_le_pow_right (by decide) (by omega))
  rw [bitc μ (fun i hi h20 => by rw [b_own h31 hi, tb_out h (by omega), Bool.false_and]), pcn_lc h31 20 (by decide)]
  have := lc_out (b := b) h (20 - n)
  rw [show n + (20 - n) = 20 by omega] at this
  rw [this]
section GT
variable {v : Nat → Nat → Int32} {μ : gM}
theorem c_cntL (C : CO v μ) : ∃ ν, f_X7_countLoops μ = some (nI (nlp v (nA v)), ν) ∧ Fr μ ν := by
  have hb := C.1.b
  obtain ⟨ν, e, F, -, T⟩ := c_grow C C.1.A31
  refine ⟨ν, ?_, F⟩
  unfold f_X7_countLoops
  rw [C.A, e, Option.bind_some, (C.fr F).A, show gi ν 7 5 = tbr v (nA v) from T.2.2, own_cnt (by omega) C.1.b.2.2.2.2]
  rfl
theorem DM_act {d d2 : Nat → Int32} {a A : Nat} (C : CI v) (D : DM v d) (hA : A < 2 ^ nN v) (ha : a < nN v) {x : Int32} (e : ∀ q, q < 702 → d2 q = if q = 22 + a then x else d q) (h1 : x = if A.testBit a = true then 1 else 0) (h2 : ∀ k, k < nN v → k ≠ a → A.testBit k = (nA v).testBit k) : DM (vset v 0 4 (nI A)) d2 := by
  have hb := C.b
  have h31 : A < 2 ^ 31 := Nat.lt_trans hA (Nat.pow_lt_pow_right (by decide) (by omega))
  have L : nL (vset v 0 4 (nI A)) = nL v := congrArg Int32.toNatClampNeg (vs_i (by decide))
  have P : nP (vset v 0 4 (nI A)) = nP v := congrArg Int32.toNatClampNeg (vs_i (by decide))
  have N : nN (vset v 0 4 (nI A)) = nN v := congrArg Int32.toNatClampNeg (vs_i (by decide))
  have AA : nA (vset v 0 4 (nI A)) = A := by
    show (vset v 0 4 (nI A) 0 4).toNatClampNeg = A
    rw [vs_s, nI_clamp h31]
  have E : ∀ k, ct (vset v 0 4 (nI A)) k = ct v k := fun k => congrArg Int32.toNatClampNeg (vs_j (by decide))
  obtain ⟨q1, q2, q3, q4, q5, q6, q7⟩ := D
  unfold DM
  rw [L, P, N, AA]
  refine ⟨fun p hp => ?_, fun p hp => ?_, fun p hp => ?_, fun p hp hp2 => ?_, fun p hp => ?_, fun p hp => ?_, fun k hk s hs w hw => ?_⟩
  · rw [e p (by omega), if_neg (by omega), vs_j (by decide)]; exact q1 p hp
  · rw [e _ (by omega), if_neg (by omega), vs_j (by decide)]; exact q2 p hp
  · rw [e _ (by omega), if_neg (by omega), vs_j (by decide)]; exact q3 p hp
  · rw [e _ (by omega), if_neg (by omega)]; exact q4 p hp hp2
  · rw [e _ (by omega)]
    by_cases c : p = a
    · rw [if_pos (by omega), c]; exact h1
    · rw [if_neg (by omega), h2 p hp c]; exact q5 p hp
  · rw [e _ (by omega), if_neg (by omega), vs_j (by decide)]; exact q6 p hp
  · rw [E] at hs
    have hc := (C.line hk).cnt
    rw [e _ (by omega), if_neg (by omega), vs_j (by decide)]; exact q7 k hk s hs w hw
theorem nA_vs {A : Nat} (C : CI v) (hA : A < 2 ^ nN v) : nA (vset v 0 4 (nI A)) = A := by
  have hb := C.b
  have h31 : A < 2 ^ 31 := Nat.lt_trans hA (Nat.pow_lt_pow_right (by decide) (by omega))
  show (vset v 0 4 (nI A) 0 4).toNatClampNeg = A
  rw [vs_s, nI_clamp h31]
/-- the set with a line put in or taken out -/
def sact (A a : Nat) (y : Int32) : Int32 := if y = 0 then nI A &&& (((1 : Int32) <<< (nI a &&& 31)) ^^^ (-1 : Int32)) else nI A ||| ((1 : Int32) <<< (nI a &&& 31))
theorem sact_b {A a : Nat} (hA : A < 2 ^ 31) (ha : a < 32) (y : Int32) {i : Nat} (hi : i < 32) : bt (sact A a y) i = if i = a then !decide (y = 0) else A.testBit i := by
  unfold sact
  by_cases c : y = 0
  · rw [if_pos c, decide_eq_true c, b_own hA hi, b_one a ha i hi]
    by_cases d : i = a
    · rw [if_pos d, decide_eq_true d]; simp
    · rw [if_neg d, decide_eq_false d]; simp
  · rw [if_neg c, decide_eq_false c, b_or, b_nI (by omega) hi, b_one a ha i hi]
    by_cases d : i = a
    · rw [if_pos d, decide_eq_true d]; simp
    · rw [if_neg d, decide_eq_false d]; simp
end GT

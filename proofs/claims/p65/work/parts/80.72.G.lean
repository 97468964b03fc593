/-! bits of a set (the first rows as the kit's BITS has them) -/
def bt (x : Int32) (i : Nat) : Bool := x.toBitVec.getLsbD i
theorem b_ext {x y : Int32} (h : ∀ i, i < 32 → bt x i = bt y i) : x = y := Int32.toBitVec_inj.mp (BitVec.eq_of_getLsbD_eq (fun i hi => h i hi))
theorem b_or (x y : Int32) (i : Nat) : bt (x ||| y) i = (bt x i || bt y i) := by unfold bt; rw [Int32.toBitVec_or, BitVec.getLsbD_or]
theorem b_and (x y : Int32) (i : Nat) : bt (x &&& y) i = (bt x i && bt y i) := by unfold bt; rw [Int32.toBitVec_and, BitVec.getLsbD_and]
theorem b_xor (x y : Int32) (i : Nat) : bt (x ^^^ y) i = (bt x i ^^ bt y i) := by unfold bt; rw [Int32.toBitVec_xor, BitVec.getLsbD_xor]
theorem b_m1 : ∀ i, i < 32 → bt (-1) i = true := by decide +kernel
theorem b_0 (i : Nat) : bt 0 i = false := BitVec.getLsbD_zero
theorem b_one : ∀ n, n < 32 → ∀ i, i < 32 → bt ((1 : Int32) <<< (nI n &&& 31)) i = decide (i = n) := by decide +kernel
theorem b_sshr (n : Nat) (hn : n < 32) (x : Int32) {i : Nat} (hi : i < 32) : bt (x >>> (nI n &&& 31)) i = if n + i < 32 then bt x (n + i) else bt x 31 := by
  unfold bt
  rw [Int32.toBitVec_shiftRight, BitVec.sshiftRight_eq', sh_l n hn, BitVec.getLsbD_sshiftRight]
  have : decide (32 ≤ i) = false := decide_eq_false (by omega)
  rw [this]
  by_cases c : n + i < 32
  · rw [if_pos c, if_pos c]; rfl
  · rw [if_neg c, if_neg c, BitVec.msb_eq_getLsbD_last]; rfl
theorem b_1 (i : Nat) (hi : i < 32) : bt 1 i = decide (i = 0) := by
  have := b_one 0 (by decide) i hi
  exact this
/-- the test of a bit, as both sides make it -/
theorem b_test {x : Int32} {k : Nat} (hk : k < 32) : (x >>> (nI k &&& 31)) &&& (1 : Int32) = if bt x k = true then 1 else 0 := by
  refine b_ext (fun i hi => ?_)
  rw [b_and, b_sshr k hk x hi, b_1 i hi]
  by_cases c : i = 0
  · subst c
    rw [if_pos (by omega), decide_eq_true rfl, Bool.and_true, Nat.add_zero]
    by_cases d : bt x k = true
    · rw [if_pos d, d, b_1 0 (by decide)]; rfl
    · rw [if_neg d, b_0]; exact Bool.eq_false_iff.mpr d
  · rw [decide_eq_false c, Bool.and_false]
    split
    · rw [b_1 i hi, decide_eq_false c]
    · rw [b_0]
theorem b_nI {A i : Nat} (hA : A < 2 ^ 32) (hi : i < 32) : bt (nI A) i = A.testBit i := by
  unfold bt
  show (BitVec.ofNat 32 A).getLsbD i = _
  rw [BitVec.getLsbD_ofNat, decide_eq_true hi, Bool.true_and]
/-! trees: of each point found its root, the line up, the point up, the depth; the set of tree lines -/
abbrev TP : Type := (Nat → Nat) × (Nat → Int32) × (Nat → Nat) × (Nat → Nat) × Int32
def tvis (v : Nat → Nat → Int32) (r p k : Nat) (X : TP) : TP := (uN X.1 (oO v k p) r, uN X.2.1 (oO v k p) (nI k), uN X.2.2.1 (oO v k p) p, uN X.2.2.2.1 (oO v k p) (X.2.2.2.1 p + 1), X.2.2.2.2 ||| ((1 : Int32) <<< (nI k &&& 31)))
def tst (M : Nat → Bool) (X : TP) (r : Nat) : BS TP := (uN M r true, fun _ => r, 1, (uN X.1 r r, uN X.2.1 r (-1), uN X.2.2.1 r r, uN X.2.2.2.1 r 0, X.2.2.2.2))
def tbs (v : Nat → Nat → Int32) (A : Nat) (M : Nat → Bool) (X : TP) (r t : Nat) : BS TP := bs3 (fs v) (sn v) A (tvis v r) (nN v) (tst M X r) t
def tgr (v : Nat → Nat → Int32) (A : Nat) : Nat → (Nat → Bool) × TP × Nat
  | 0 => (fun _ => false, (fun _ => 0, fun _ => 0, fun _ => 0, fun _ => 0, 0), 0)
  | p + 1 => if (tgr v A p).1 p = true then tgr v A p else ((tbs v A (tgr v A p).1 (tgr v A p).2.1 p (nP v)).1, (tbs v A (tgr v A p).1 (tgr v A p).2.1 p (nP v)).2.2.2, (tgr v A p).2.2 + 1)
section TR
variable {v : Nat → Nat → Int32} {A : Nat}
theorem tst_I {n : Nat} {M : Nat → Bool} {X : TP} {r : Nat} (hr : r < n) (hM : M r = false) : BI n M (tst M X r) := by
  refine ⟨?_, fun j hj => ⟨hr, uN_s⟩, fun p hp => ?_, fun p hp => ?_⟩
  · show 1 + cntB M n = cntB (uN M r true) n
    rw [cntB_up hM hr]; omega
  · have hp2 : uN M r true p = true := hp
    by_cases e : p = r
    · exact Or.inr ⟨0, Nat.zero_lt_one, e.symm⟩
    · rw [uN_n e] at hp2; exact Or.inl hp2
  · show uN M r true p = true
    by_cases e : p = r
    · rw [e]; exact uN_s
    · rw [uN_n e]; exact hp
theorem tbs_s {M : Nat → Bool} {X : TP} {r : Nat} (t : Nat) : tbs v A M X r (t + 1) = if t < (tbs v A M X r t).2.2.1 then bs2 (fs v) (sn v) A (tvis v r) ((tbs v A M X r t).2.1 t) (tbs v A M X r t) (nN v) else tbs v A M X r t := rfl
theorem tbs_I (C : CI v) {M : Nat → Bool} {X : TP} {r : Nat} (hr : r < nP v) (hM : M r = false) (t : Nat) : BI (nP v) M (tbs v A M X r t) := bs3_I C.g (tst_I hr hM) t
theorem tbs_st (C : CI v) {M : Nat → Bool} {X : TP} {r : Nat} (hr : r < nP v) (hM : M r = false) {t N : Nat} (ht : (tbs v A M X r t).2.2.1 ≤ t) (hn : t ≤ nP v) (hN : nP v ≤ N) : tbs v A M X r N = tbs v A M X r t := bs3_end C.g (tst_I hr hM) ht hn hN
/-- what holds of the trees so far: roots r0 and below are done -/
def TI0 (v : Nat → Nat → Int32) (A r0 : Nat) (M : Nat → Bool) (X : TP) : Prop := ∀ p, M p = true → p < nP v ∧ X.1 p ≤ r0 ∧ X.1 p ≤ p ∧ M (X.1 p) = true ∧ X.1 (X.1 p) = X.1 p ∧ ((X.1 p = p ∧ X.2.1 p = -1 ∧ X.2.2.2.1 p = 0) ∨
  (X.1 p ≠ p ∧ ∃ k, k < nN v ∧ X.2.1 p = nI k ∧ brT (fs v) (sn v) A k p ∧ X.2.2.1 p = oO v k p ∧ M (oO v k p) = true ∧ X.1 (oO v k p) = X.1 p ∧ X.2.2.2.1 p = X.2.2.2.1 (oO v k p) + 1 ∧ bt X.2.2.2.2 k = true))
end TR

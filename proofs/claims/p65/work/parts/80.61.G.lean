theorem labs_toInt {x : Int64} (h : -9223372036854775808 < x.toInt) : (labs x).toInt = (x.toInt.natAbs : Int) := by
  have h2 := Int64.toInt_lt x
  have z : (0 : Int64).toInt = 0 := by decide
  unfold labs
  by_cases c : (0 : Int64) < x
  · rw [if_pos c]
    rw [Int64.lt_iff_toInt_lt, z] at c
    omega
  · rw [if_neg c]
    rw [Int64.lt_iff_toInt_lt, z] at c
    rw [Int64.toInt_neg, Int.bmod_eq_of_le (by omega) (by omega)]
    omega
theorem labs_l {x : Int64} (h : -9223372036854775808 < x.toInt) : labs x = lN x.toInt.natAbs := by
  refine Int64.toInt_inj.mp ?_
  have h2 := Int64.toInt_lt x
  rw [labs_toInt h, pk_lT (by omega)]
/-- the model with its adjusted heights -/
def MH (v : Nat → Nat → Int32) (z : Int32) (h : Nat → Int64) (ν : gM) : Prop := MO v ν ∧ gi ν 61 702 = z ∧ ν.2 64 = h
theorem MH.fr {v : Nat → Nat → Int32} {z : Int32} {h : Nat → Int64} {μ ν : gM} (F : Fr μ ν) (H : MH v z h μ) : MH v z h ν := ⟨H.1.fr F, (F.1 61 702 rfl).trans H.2.1, (F.g 64 rfl).trans H.2.2⟩
theorem Rel.hm {μ : gM} (R : Rel μ) : HM (nv 34 μ) (gi μ 20 2) (μ.2 22) (μ.1 61) (μ.2 64) := R.2.2.2.1
theorem Rel.mh {μ : gM} (R : Rel μ) : MH (nv 34 μ) (gi μ 20 2) (μ.2 64) μ := ⟨R.mo, R.hm.2.1, rfl⟩
theorem Rel.mh77 {μ : gM} (R : Rel μ) (x : Int64) : MH (nv 34 μ) (gi μ 20 2) (μ.2 64) (sl μ 77 0 x) := ⟨(R.sl77 0 x).mo, R.hm.2.1, funext fun i => (show (if (64 : Nat) = 77 ∧ i = 0 then x else μ.2 64 i) = μ.2 64 i from if_neg (fun w => absurd w.1 (by decide)))⟩
def adh (z : Int32) (a : Nat → Int64) (p : Nat) : Int64 := if z = 1 then a p else noH
abbrev hsR (v : Nat → Nat → Int32) (z : Int32) (a : Nat → Int64) (k : Nat) : Prop := (nA v).testBit k = true ∧ ¬ adh z a (fs v k) = noH ∧ ¬ adh z a (sn v k) = noH
def msv (v : Nat → Nat → Int32) (z : Int32) (a : Nat → Int64) (k : Nat) : Int64 := (adh z a (sn v k) - adh z a (fs v k)) - (ris v k).toInt64
def msf (v : Nat → Nat → Int32) (z : Int32) (a : Nat → Int64) (k : Nat) : Int64 := if hsR v z a k then msv v z a k else noH
section HT
variable {v : Nat → Nat → Int32} {μ ν : gM} {z : Int32} {a h : Nat → Int64} {d : Nat → Int32}
theorem c_sh (hz : gi μ 20 2 = 0 ∨ gi μ 20 2 = 1) {p : Nat} (hp : p < 16) : f_X0_settledHeight (nI p) μ = some (adh (gi μ 20 2) (μ.2 22) p) := by
  unfold f_X0_settledHeight adh
  rcases hz with e | e
  · rw [if_pos e, e, if_neg (by decide)]
  · rw [e, if_neg (by decide), if_pos rfl, gck hp (by decide), nI_clamp (by omega)]; rfl
theorem c_misfit (C : CO v μ) (hz : gi μ 20 2 = 0 ∨ gi μ 20 2 = 1) {k : Nat} (hk : k < nN v) : f_X0_misfit (nI k) μ = some (msf v (gi μ 20 2) (μ.2 22) k) := by
  have hb := C.1.b
  have hg := C.1.g k hk
  unfold f_X0_misfit msf msv
  simp (disch := omega) only [gck, nI_clamp, c_fs C hk, c_sn C hk]
  rw [c_sh hz (show fs v k < 16 by omega), Option.bind_some, c_sh hz (show sn v k < 16 by omega), Option.bind_some, c_isActive C hk, Option.bind_some, c_lineRise C hk, Option.bind_some]
  by_cases c : (nA v).testBit k = true
  · rw [if_neg (show ¬ b2i ((nA v).testBit k) = 0 from by rw [c]; decide)]
    by_cases c1 : adh (gi μ 20 2) (μ.2 22) (fs v k) = noH
    · rw [if_pos c1, if_neg (fun w => w.2.1 c1)]
    · rw [if_neg c1]
      by_cases c2 : adh (gi μ 20 2) (μ.2 22) (sn v k) = noH
      · rw [if_pos c2, if_neg (fun w => w.2.2 c2)]
      · rw [if_neg c2, if_pos ⟨c, c1, c2⟩]
  · rw [if_neg (show ¬ hsR v (gi μ 20 2) (μ.2 22) k from fun w => c w.1), if_pos (show b2i ((nA v).testBit k) = 0 from by rw [Bool.eq_false_iff.mpr c]; rfl)]
theorem adh_1 {p : Nat} (h : ¬ adh z a p = noH) : z = 1 := by
  unfold adh at h
  by_cases c : z = 1
  · exact c
  · rw [if_neg c] at h; exact absurd rfl h
theorem adh_e {p : Nat} (h : ¬ adh z a p = noH) : adh z a p = a p := if_pos (adh_1 h)
theorem HM.bnd (H : HM v z a d h) {p : Nat} (hp : p < nP v) (h1 : ¬ adh z a p = noH) : -1000000000000 ≤ (adh z a p).toInt ∧ (adh z a p).toInt ≤ 1000000000000 := by
  have e := adh_e h1
  rw [e] at h1 ⊢
  exact (H.2.2 (adh_1 (a := a) (p := p) (by rw [e]; exact h1)) p hp).2.2.resolve_left h1
theorem HM.eq (H : HM v z a d h) : z = 1 → ∀ p, p < nP v → h p = a p := fun e p hp => (H.2.2 e p hp).1
theorem msv_b (C : CI v) (H : HM v z a d h) {k : Nat} (hk : k < nN v) (hr : hsR v z a k) : -2100000000000 ≤ (msv v z a k).toInt ∧ (msv v z a k).toInt ≤ 2100000000000 := by
  have hg := C.g k hk
  have b1 := H.bnd hg.1 hr.2.1
  have b2 := H.bnd hg.2 hr.2.2
  have b3 := ris_b C hk
  unfold msv
  have e1 : (adh z a (sn v k) - adh z a (fs v k)).toInt = (adh z a (sn v k)).toInt - (adh z a (fs v k)).toInt := i64_sub (by omega)
  rw [i64_sub (by rw [e1, Int32.toInt_toInt64]; omega), e1, Int32.toInt_toInt64]
  omega
theorem msf_n (C : CI v) (H : HM v z a d h) {k : Nat} (hk : k < nN v) : msf v z a k = noH ↔ ¬ hsR v z a k := by
  unfold msf
  by_cases c : hsR v z a k
  · rw [if_pos c]
    exact ⟨fun e => absurd e (noH_ne (by have := msv_b C H hk c; omega)), fun w => absurd c w⟩
  · rw [if_neg c]; exact ⟨fun _ => c, fun _ => rfl⟩
/-- per metre, of a line that has a residual -/
def stn (v : Nat → Nat → Int32) (z : Int32) (a : Nat → Int64) (k : Nat) : Int64 := ((1000 : Int64) * labs (msv v z a k)) / (nI (ln v k)).toInt64
theorem stn_b (C : CI v) (H : HM v z a d h) {k : Nat} (hk : k < nN v) (hr : hsR v z a k) : 0 ≤ (stn v z a k).toInt := by
  have b := msv_b C H hk hr
  have hl := (C.line hk).lnb
  unfold stn
  rw [labs_l (by omega), nI_l (by omega), show (1000 : Int64) = lN 1000 from rfl, lN_mul, pk_lDiv (by omega) (by omega) (by omega), pk_lT (Nat.lt_of_le_of_lt (Nat.div_le_self _ _) (by omega))]
  exact Int.natCast_nonneg _
/-- the best so far, the first of equals -/
def wst (c : Bool) (s : Nat → Int64) (o : Option Nat) (k : Nat) : Option Nat := match c, o with
  | false, o => o
  | true, none => some k
  | true, some b => if s k ≤ s b then some b else some k
def best (c : Nat → Bool) (s : Nat → Int64) : Nat → Option Nat
  | 0 => none
  | k + 1 => wst (c k) s (best c s k) k
def bsv (s : Nat → Int64) : Option Nat → Int64
  | none => -1
  | some b => s b
theorem best_f {c : Nat → Bool} {s : Nat → Int64} {k : Nat} (h : c k = false) : best c s (k + 1) = best c s k := by
  show wst (c k) s _ k = _
  rw [h]; rfl
theorem best_n {c : Nat → Bool} {s : Nat → Int64} {k : Nat} (h : c k = true) (e : best c s k = none) : best c s (k + 1) = some k := by
  show wst (c k) s _ k = _
  rw [h, e]; rfl
theorem best_y {c : Nat → Bool} {s : Nat → Int64} {k b : Nat} (h : c k = true) (e : best c s k = some b) : best c s (k + 1) = if s k ≤ s b then some b else some k := by
  show wst (c k) s _ k = _
  rw [h, e]; rfl
theorem best_p {c : Nat → Bool} {s : Nat → Int64} : ∀ {k b : Nat}, best c s k = some b → b < k ∧ c b = true
  | 0, b, e => by cases e
  | k + 1, b, e => by
    cases h : c k with
    | false =>
      rw [best_f h] at e
      exact ⟨Nat.lt_succ_of_lt (best_p e).1, (best_p e).2⟩
    | true =>
      cases q : best c s k with
      | none => rw [best_n h q] at e; cases e; exact ⟨Nat.lt_succ_self _, h⟩
      | some b2 =>
        rw [best_y h q] at e
        by_cases d : s k ≤ s b2
        · rw [if_pos d] at e; cases e; exact ⟨Nat.lt_succ_of_lt (best_p q).1, (best_p q).2⟩
        · rw [if_neg d] at e; cases e; exact ⟨Nat.lt_succ_self _, h⟩
theorem best_c {c : Nat → Bool} {s : Nat → Int64} {k : Nat} (h : c k = true) (hs : 0 ≤ (s k).toInt) {ρ : Type} (n : Int32) : (if s k ≤ bsv s (best c s k) then some (Sum.inl (oI (best c s k), bsv s (best c s k), n)) else some (Sum.inl (nI k, s k, n))) = (some (Sum.inl (oI (best c s (k + 1)), bsv s (best c s (k + 1)), n)) : Option ((Int32 × Int64 × Int32) ⊕ ρ)) := by
  cases q : best c s k with
  | none =>
    have z1 : (-1 : Int64).toInt = -1 := by decide
    rw [best_n h q, if_neg (show ¬ s k ≤ bsv s none from fun w => by
      have w2 : s k ≤ (-1 : Int64) := w
      rw [Int64.le_iff_toInt_le, z1] at w2; omega)]
    rfl
  | some b =>
    rw [best_y h q]
    by_cases d : s k ≤ s b
    · rw [if_pos d, if_pos (show s k ≤ bsv s (some b) from d)]
    · rw [if_neg d, if_neg (show ¬ s k ≤ bsv s (some b) from d)]; rfl
def wrl (v : Nat → Nat → Int32) (z : Int32) (a : Nat → Int64) : Nat → Option Nat := best (fun k => decide (hsR v z a k)) (stn v z a)
theorem l0_ne {n : Nat} (h0 : 0 < n) (h : n < 2 ^ 31) : ¬ (nI n).toInt64 = 0 := by
  rw [nI_l h, show (0 : Int64) = lN 0 from rfl, pk_lEQ (by omega) (by omega)]
  omega
theorem oI_neg {k : Nat} (h : k < 2 ^ 31) : (oI (some k) < 0) = False := eq_false (nI_pos h)
end HT
def rsS (v : Nat → Nat → Int32) (z : Int32) (a : Nat → Int64) : Nat → Int64
  | 0 => 0
  | k + 1 => if hsR v z a k then rsS v z a k + labs (msv v z a k) * (nI (1000000 / ln v k)).toInt64 else rsS v z a k
section G7
variable {μ : gM}
end G7
/-! the point that moved most -/
def mvd (v : Nat → Nat → Int32) (z : Int32) (a : Nat → Int64) (p : Nat) : Int64 := labs (adh z a p - pv v p)
def mmv (v : Nat → Nat → Int32) (z : Int32) (a : Nat → Int64) : Nat → Option Nat := best (fun p => decide (¬ adh z a p = noH)) (mvd v z a)
section MM
variable {v : Nat → Nat → Int32} {μ ν : gM} {z : Int32} {a h : Nat → Int64} {d : Nat → Int32}
theorem mvd_b (C : CI v) (H : HM v z a d h) {p : Nat} (hp : p < nP v) (hr : ¬ adh z a p = noH) : 0 ≤ (mvd v z a p).toInt := by
  have b1 := H.bnd hp hr
  have e1 := adh_e hr
  have hpv : pv v p ≠ noH := by
    have h1 := (H.2.2 (adh_1 hr) p hp).2.1
    rw [e1] at hr
    intro w
    exact hr (h1.mpr ((pv_rch C p).mp w))
  have b2 := pv_b C hpv
  have e2 : (adh z a p - pv v p).toInt = (adh z a p).toInt - (pv v p).toInt := i64_sub (by omega)
  unfold mvd
  rw [labs_toInt (by omega)]
  omega
end MM
section G8
variable {μ : gM}
end G8

/-! adjusted heights: the operations that ask for them -/
theorem size_labs (x : Int64) (μ : gM) : f_X8_size x μ = some (labs x) := by
  have z : (0 : Int64).toInt = 0 := by decide
  unfold f_X8_size labs
  by_cases c : (0 : Int64) < x
  · rw [if_pos c, if_pos (Int64.le_of_lt c)]
  · rw [if_neg c]
    by_cases d : (0 : Int64) ≤ x
    · have e : x = 0 := by
        refine Int64.toInt_inj.mp ?_
        rw [Int64.lt_iff_toInt_lt, z] at c
        rw [Int64.le_iff_toInt_le, z] at d
        rw [z]; omega
      rw [e]; rfl
    · rw [if_neg d]
theorem labs_toInt {x : Int64} (h : -9223372036854775808 < x.toInt) : (labs x).toInt = (x.toInt.natAbs : Int) := by
  have h2 := Int64.toInt_lt x
  have z : (0 : Int64).toInt = 0 := by decide
  unfold labs
  by_cases c : (0 : Int64) < x
  · rw [if_pos c]
    rw [Int64.lt_iff_toInt_lt, z] at c
    omega
  · rw [if_neg c]
    rw [Int64.lt_iff_toInt_lt, z] at c
    rw [Int64.toInt_neg, Int.bmod_eq_of_le (by omega) (by omega)]
    omega
theorem labs_l {x : Int64} (h : -9223372036854775808 < x.toInt) : labs x = lN x.toInt.natAbs := by
  refine Int64.toInt_inj.mp ?_
  have h2 := Int64.toInt_lt x
  rw [labs_toInt h, pk_lT (by omega)]
/-- the model with its adjusted heights -/
def MH (v : Nat → Nat → Int32) (z : Int32) (h : Nat → Int64) (ν : gM) : Prop := MO v ν ∧ gi ν 61 702 = z ∧ ν.2 64 = h
theorem MH.fr {v : Nat → Nat → Int32} {z : Int32} {h : Nat → Int64} {μ ν : gM} (F : Fr μ ν) (H : MH v z h μ) : MH v z h ν := ⟨H.1.fr F, (F.1 61 702 rfl).trans H.2.1, (F.g 64 rfl).trans H.2.2⟩
theorem Rel.hm {μ : gM} (R : Rel μ) : HM (nv 34 μ) (gi μ 20 2) (μ.2 22) (μ.1 61) (μ.2 64) := R.2.2.2.1
theorem Rel.mh {μ : gM} (R : Rel μ) : MH (nv 34 μ) (gi μ 20 2) (μ.2 64) μ := ⟨R.mo, R.hm.2.1, rfl⟩
theorem Rel.mh77 {μ : gM} (R : Rel μ) (x : Int64) : MH (nv 34 μ) (gi μ 20 2) (μ.2 64) (sl μ 77 0 x) := ⟨(R.sl77 0 x).mo, R.hm.2.1, funext fun i => (show (if (64 : Nat) = 77 ∧ i = 0 then x else μ.2 64 i) = μ.2 64 i from if_neg (fun w => absurd w.1 (by decide)))⟩
theorem pureJ {μ : gM} (R : Rel μ) {fC : Option (Option Int64)} {fM : gM → Option (Int64 × gM)} (h : (fC = some none ∧ fM μ = some (0, si μ 60 6 1)) ∨ ∃ w, fC = some (some w) ∧ ∀ ν, MH (nv 34 μ) (gi μ 20 2) (μ.2 64) ν → fM ν = some (w, si ν 60 6 0)) : simOK μ (caseJ (wrapJ fC μ) fM) := by
  rcases h with ⟨h1, h2⟩ | ⟨w, h1, h2⟩
  · exact caseJ_bad (μ1 := μ) (by rw [h1]; rfl) h2 gi_sii (R.fr (si60 1))
  · exact caseJ_good (μ1 := μ) (by rw [h1]; rfl) (h2 _ (R.mh77 w)) gi_sii ((Fr.rf _).si rfl) R
def adh (z : Int32) (a : Nat → Int64) (p : Nat) : Int64 := if z = 1 then a p else noH
abbrev hsR (v : Nat → Nat → Int32) (z : Int32) (a : Nat → Int64) (k : Nat) : Prop := (nA v).testBit k = true ∧ ¬ adh z a (fs v k) = noH ∧ ¬ adh z a (sn v k) = noH
def msv (v : Nat → Nat → Int32) (z : Int32) (a : Nat → Int64) (k : Nat) : Int64 := (adh z a (sn v k) - adh z a (fs v k)) - (ris v k).toInt64
def msf (v : Nat → Nat → Int32) (z : Int32) (a : Nat → Int64) (k : Nat) : Int64 := if hsR v z a k then msv v z a k else noH
section HT
variable {v : Nat → Nat → Int32} {μ ν : gM} {z : Int32} {a h : Nat → Int64} {d : Nat → Int32}
theorem c_sh (hz : gi μ 20 2 = 0 ∨ gi μ 20 2 = 1) {p : Nat} (hp : p < 16) : f_X0_settledHeight (nI p) μ = some (adh (gi μ 20 2) (μ.2 22) p) := by
  unfold f_X0_settledHeight adh
  rcases hz with e | e
  · rw [if_pos e, e, if_neg (by decide)]
  · rw [e, if_neg (by decide), if_pos rfl, gck hp (by decide), nI_clamp (by omega)]; rfl
theorem m_ad (H : MH v z h ν) (hh : z = 1 → ∀ p, p < nP v → h p = a p) {p : Nat} (hp : p < nP v) : f_X8_adjusted (nI p) ν = some (adh z a p) := by
  have hb := H.1.1.b
  unfold f_X8_adjusted adh
  rw [show (702 : Int32) = nI 702 from rfl, gck (by decide) (by decide), nI_clamp (by decide), H.2.1]
  by_cases c : z = 1
  · rw [if_pos c, if_pos c, gck (by omega) (by decide), nI_clamp (by omega), ← hh c p hp, ← H.2.2]; rfl
  · rw [if_neg c, if_neg c]
theorem c_misfit (C : CO v μ) (hz : gi μ 20 2 = 0 ∨ gi μ 20 2 = 1) {k : Nat} (hk : k < nN v) : f_X0_misfit (nI k) μ = some (msf v (gi μ 20 2) (μ.2 22) k) := by
  have hb := C.1.b
  have hg := C.1.g k hk
  unfold f_X0_misfit msf msv
  simp (disch := omega) only [gck, nI_clamp, c_fs C hk, c_sn C hk]
  rw [c_sh hz (show fs v k < 16 by omega), Option.bind_some, c_sh hz (show sn v k < 16 by omega), Option.bind_some, c_isActive C hk, Option.bind_some, c_lineRise C hk, Option.bind_some]
  by_cases c : (nA v).testBit k = true
  · rw [if_neg (show ¬ b2i ((nA v).testBit k) = 0 from by rw [c]; decide)]
    by_cases c1 : adh (gi μ 20 2) (μ.2 22) (fs v k) = noH
    · rw [if_pos c1, if_neg (fun w => w.2.1 c1)]
    · rw [if_neg c1]
      by_cases c2 : adh (gi μ 20 2) (μ.2 22) (sn v k) = noH
      · rw [if_pos c2, if_neg (fun w => w.2.2 c2)]
      · rw [if_neg c2, if_pos ⟨c, c1, c2⟩]
  · rw [if_neg (show ¬ hsR v (gi μ 20 2) (μ.2 22) k from fun w => c w.1), if_pos (show b2i ((nA v).testBit k) = 0 from by rw [Bool.eq_false_iff.mpr c]; rfl)]
theorem m_hasR (H : MH v z h ν) (hh : z = 1 → ∀ p, p < nP v → h p = a p) {k : Nat} (hk : k < nN v) : f_X8_hasResidual (nI k) ν = some (decide (hsR v z a k)) := by
  have hb := H.1.1.b
  have hg := H.1.1.g k hk
  unfold f_X8_hasResidual
  rw [m_isActive H.1 hk, Option.bind_some, m_first H.1 hk, Option.bind_some, m_second H.1 hk, Option.bind_some, m_ad H hh hg.1, Option.bind_some, m_ad H hh hg.2, Option.bind_some]
  by_cases c : (nA v).testBit k = true
  · rw [if_neg (show ¬ b2i ((nA v).testBit k) = 0 from by rw [c]; decide)]
    by_cases c1 : adh z a (fs v k) = noH
    · rw [if_pos c1, decide_eq_false (show ¬ hsR v z a k from fun w => w.2.1 c1)]
    · rw [if_neg c1]
      by_cases c2 : adh z a (sn v k) = noH
      · rw [if_pos c2, decide_eq_false (show ¬ hsR v z a k from fun w => w.2.2 c2)]
      · rw [if_neg c2, decide_eq_true (show hsR v z a k from ⟨c, c1, c2⟩)]
  · rw [decide_eq_false (show ¬ hsR v z a k from fun w => c w.1), if_pos (show b2i ((nA v).testBit k) = 0 from by rw [Bool.eq_false_iff.mpr c]; rfl)]
theorem adh_1 {p : Nat} (h : ¬ adh z a p = noH) : z = 1 := by
  unfold adh at h
  by_cases c : z = 1
  · exact c
  · rw [if_neg c] at h; exact absurd rfl h
theorem adh_e {p : Nat} (h : ¬ adh z a p = noH) : adh z a p = a p := if_pos (adh_1 h)
theorem m_resO (H : MH v z h ν) (hh : z = 1 → ∀ p, p < nP v → h p = a p) {k : Nat} (hk : k < nN v) (hr : hsR v z a k) : f_X8_residualOf (nI k) ν = some (msv v z a k) := by
  have hb := H.1.1.b
  have hg := H.1.1.g k hk
  have z1 := adh_1 hr.2.1
  unfold f_X8_residualOf msv
  rw [m_second H.1 hk, Option.bind_some, gck (by omega) (by decide), m_first H.1 hk, Option.bind_some, gck (by omega) (by decide), nI_clamp (by omega), nI_clamp (by omega), m_rise H.1 hk, Option.bind_some, adh_e hr.2.1, adh_e hr.2.2, ← hh z1 _ hg.1, ← hh z1 _ hg.2, ← H.2.2]
  rfl
theorem HM.bnd (H : HM v z a d h) {p : Nat} (hp : p < nP v) (h1 : ¬ adh z a p = noH) : -1000000000000 ≤ (adh z a p).toInt ∧ (adh z a p).toInt ≤ 1000000000000 := by
  have e := adh_e h1
  rw [e] at h1 ⊢
  exact (H.2.2 (adh_1 (a := a) (p := p) (by rw [e]; exact h1)) p hp).2.2.resolve_left h1
theorem HM.eq (H : HM v z a d h) : z = 1 → ∀ p, p < nP v → h p = a p := fun e p hp => (H.2.2 e p hp).1
theorem msv_b (C : CI v) (H : HM v z a d h) {k : Nat} (hk : k < nN v) (hr : hsR v z a k) : -2100000000000 ≤ (msv v z a k).toInt ∧ (msv v z a k).toInt ≤ 2100000000000 := by
  have hg := C.g k hk
  have b1 := H.bnd hg.1 hr.2.1
  have b2 := H.bnd hg.2 hr.2.2
  have b3 := ris_b C hk
  unfold msv
  have e1 : (adh z a (sn v k) - adh z a (fs v k)).toInt = (adh z a (sn v k)).toInt - (adh z a (fs v k)).toInt := i64_sub (by omega)
  rw [i64_sub (by rw [e1, Int32.toInt_toInt64]; omega), e1, Int32.toInt_toInt64]
  omega
theorem msf_n (C : CI v) (H : HM v z a d h) {k : Nat} (hk : k < nN v) : msf v z a k = noH ↔ ¬ hsR v z a k := by
  unfold msf
  by_cases c : hsR v z a k
  · rw [if_pos c]
    exact ⟨fun e => absurd e (noH_ne (by have := msv_b C H hk c; omega)), fun w => absurd c w⟩
  · rw [if_neg c]; exact ⟨fun _ => c, fun _ => rfl⟩
/-- per metre, of a line that has a residual -/
def stn (v : Nat → Nat → Int32) (z : Int32) (a : Nat → Int64) (k : Nat) : Int64 := ((1000 : Int64) * labs (msv v z a k)) / (nI (ln v k)).toInt64
theorem stn_b (C : CI v) (H : HM v z a d h) {k : Nat} (hk : k < nN v) (hr : hsR v z a k) : 0 ≤ (stn v z a k).toInt := by
  have b := msv_b C H hk hr
  have hl := (C.line hk).lnb
  unfold stn
  rw [labs_l (by omega), nI_l (by omega), show (1000 : Int64) = lN 1000 from rfl, lN_mul, pk_lDiv (by omega) (by omega) (by omega), pk_lT (Nat.lt_of_le_of_lt (Nat.div_le_self _ _) (by omega))]
  exact Int.natCast_nonneg _
/-- the best so far, the first of equals -/
def wst (c : Bool) (s : Nat → Int64) (o : Option Nat) (k : Nat) : Option Nat := match c, o with
  | false, o => o
  | true, none => some k
  | true, some b => if s k ≤ s b then some b else some k
def best (c : Nat → Bool) (s : Nat → Int64) : Nat → Option Nat
  | 0 => none
  | k + 1 => wst (c k) s (best c s k) k
def bsv (s : Nat → Int64) : Option Nat → Int64
  | none => -1
  | some b => s b
theorem best_f {c : Nat → Bool} {s : Nat → Int64} {k : Nat} (h : c k = false) : best c s (k + 1) = best c s k := by
  show wst (c k) s _ k = _
  rw [h]; rfl
theorem best_n {c : Nat → Bool} {s : Nat → Int64} {k : Nat} (h : c k = true) (e : best c s k = none) : best c s (k + 1) = some k := by
  show wst (c k) s _ k = _
  rw [h, e]; rfl
theorem best_y {c : Nat → Bool} {s : Nat → Int64} {k b : Nat} (h : c k = true) (e : best c s k = some b) : best c s (k + 1) = if s k ≤ s b then some b else some k := by
  show wst (c k) s _ k = _
  rw [h, e]; rfl
theorem best_p {c : Nat → Bool} {s : Nat → Int64} : ∀ {k b : Nat}, best c s k = some b → b < k ∧ c b = true
  | 0, b, e => by cases e
  | k + 1, b, e => by
    cases h : c k with
    | false =>
      rw [best_f h] at e
      exact ⟨Nat.lt_succ_of_lt (best_p e).1, (best_p e).2⟩
    | true =>
      cases q : best c s k with
      | none => rw [best_n h q] at e; cases e; exact ⟨Nat.lt_succ_self _, h⟩
      | some b2 =>
        rw [best_y h q] at e
        by_cases d : s k ≤ s b2
        · rw [if_pos d] at e; cases e; exact ⟨Nat.lt_succ_of_lt (best_p q).1, (best_p q).2⟩
        · rw [if_neg d] at e; cases e; exact ⟨Nat.lt_succ_self _, h⟩
theorem best_c {c : Nat → Bool} {s : Nat → Int64} {k : Nat} (h : c k = true) (hs : 0 ≤ (s k).toInt) {ρ : Type} (n : Int32) : (if s k ≤ bsv s (best c s k) then some (Sum.inl (oI (best c s k), bsv s (best c s k), n)) else some (Sum.inl (nI k, s k, n))) = (some (Sum.inl (oI (best c s (k + 1)), bsv s (best c s (k + 1)), n)) : Option ((Int32 × Int64 × Int32) ⊕ ρ)) := by
  cases q : best c s k with
  | none =>
    have z1 : (-1 : Int64).toInt = -1 := by decide
    rw [best_n h q, if_neg (show ¬ s k ≤ bsv s none from fun w => by
      have w2 : s k ≤ (-1 : Int64) := w
      rw [Int64.le_iff_toInt_le, z1] at w2; omega)]
    rfl
  | some b =>
    rw [best_y h q]
    by_cases d : s k ≤ s b
    · rw [if_pos d, if_pos (show s k ≤ bsv s (some b) from d)]
    · rw [if_neg d, if_neg (show ¬ s k ≤ bsv s (some b) from d)]; rfl
def wrl (v : Nat → Nat → Int32) (z : Int32) (a : Nat → Int64) : Nat → Option Nat := best (fun k => decide (hsR v z a k)) (stn v z a)
theorem l0_ne {n : Nat} (h0 : 0 < n) (h : n < 2 ^ 31) : ¬ (nI n).toInt64 = 0 := by
  rw [nI_l h, show (0 : Int64) = lN 0 from rfl, pk_lEQ (by omega) (by omega)]
  omega
theorem oI_neg {k : Nat} (h : k < 2 ^ 31) : (oI (some k) < 0) = False := eq_false (nI_pos h)
theorem m_strain (H : MH v z h ν) (hh : z = 1 → ∀ p, p < nP v → h p = a p) {k : Nat} (hk : k < nN v) (hr : hsR v z a k) : f_X8_strain (nI k) ν = some (stn v z a k) := by
  have hl := (H.1.1.line hk).lnb
  unfold f_X8_strain
  rw [m_resO H hh hk hr, Option.bind_some, size_labs, Option.bind_some, m_length H.1 hk, Option.bind_some, gckb (l0_ne (by omega) (by omega))]
  rfl
theorem c_wrl (C : CO v μ) (H : HM v (gi μ 20 2) (μ.2 22) d h) : f_X7_worstLine μ = some (oI (wrl v (gi μ 20 2) (μ.2 22) (nN v))) := by
  have hb := C.1.b
  unfold f_X7_worstLine
  have g : gloop (fun t => b_X7_worstLine_9 t.1 t.2.1 t.2.2 μ) gFuel ((-1 : Int32), (-1 : Int64), (0 : Int32)) = some (oI (wrl v (gi μ 20 2) (μ.2 22) (nN v))) := by
    refine gloop_run (fun i => (oI (wrl v (gi μ 20 2) (μ.2 22) i), bsv (stn v (gi μ 20 2) (μ.2 22)) (wrl v (gi μ 20 2) (μ.2 22) i), nI i)) (nN v) (fun i hi => ?_) ?_ gFuel (by unfold gFuel; omega)
    · show b_X7_worstLine_9 (oI (wrl v (gi μ 20 2) (μ.2 22) i)) (bsv (stn v (gi μ 20 2) (μ.2 22)) (wrl v (gi μ 20 2) (μ.2 22) i)) (nI i) μ = some (Sum.inl (oI (wrl v (gi μ 20 2) (μ.2 22) (i + 1)), bsv (stn v (gi μ 20 2) (μ.2 22)) (wrl v (gi μ 20 2) (μ.2 22) (i + 1)), nI (i + 1)))
      have hl := (C.1.line hi).lnb
      unfold b_X7_worstLine_9
      rw [C.N, if_neg (nI_ge hi (by omega)), c_misfit C H.1 hi, Option.bind_some, c_lineLength C hi, Option.bind_some, if_neg (nI_nle (n := ln v i) (by omega) (by omega)), gckb (l0_ne (by omega) (by omega)), nI_1]
      have hn := msf_n C.1 H hi
      by_cases c : hsR v (gi μ 20 2) (μ.2 22) i
      · rw [if_neg (fun w => hn.mp w c), show msf v (gi μ 20 2) (μ.2 22) i = msv v (gi μ 20 2) (μ.2 22) i from if_pos c]
        exact best_c (decide_eq_true c) (stn_b C.1 H hi c) (nI (i + 1))
      · rw [if_pos (hn.mpr c), show wrl v (gi μ 20 2) (μ.2 22) (i + 1) = wrl v (gi μ 20 2) (μ.2 22) i from best_f (decide_eq_false c)]
    · show b_X7_worstLine_9 _ _ (nI (nN v)) μ = _
      unfold b_X7_worstLine_9
      rw [C.N, if_pos (nI_le (Nat.le_refl _) (by omega))]
  rw [g]; rfl
theorem m_wrl (H : MH v z h ν) (hh : z = 1 → ∀ p, p < nP v → h p = a p) : gloop (fun t => b_X8_worstLine_9 t.1 t.2 ν) gFuel ((-1 : Int32), (0 : Int32)) = some (oI (wrl v z a (nN v))) := by
  have hb := H.1.1.b
  refine gloop_run (fun i => (oI (wrl v z a i), nI i)) (nN v) (fun i hi => ?_) ?_ gFuel (by unfold gFuel; omega)
  · show b_X8_worstLine_9 (oI (wrl v z a i)) (nI i) ν = some (Sum.inl (oI (wrl v z a (i + 1)), nI (i + 1)))
    unfold b_X8_worstLine_9
    rw [m_cN H.1, Option.bind_some, if_neg (nI_ge hi (by omega)), m_hasR H hh hi, Option.bind_some, nI_1]
    by_cases c : hsR v z a i
    · rw [if_neg (show ¬ b2i (decide (hsR v z a i)) = 0 from by rw [decide_eq_true c]; decide)]
      cases q : wrl v z a i with
      | none =>
        rw [show wrl v z a (i + 1) = some i from best_n (decide_eq_true c) q, if_pos (show oI none < 0 from by decide)]; rfl
      | some b =>
        have hb2 := best_p q
        have hrb := of_decide_eq_true hb2.2
        rw [show wrl v z a (i + 1) = _ from best_y (decide_eq_true c) q, if_neg (show ¬ oI (some b) < 0 from nI_pos (by omega)), m_strain H hh hi c, Option.bind_some]
        show Option.bind (f_X8_strain (nI b) ν) _ = _
        rw [m_strain H hh (by omega) hrb, Option.bind_some]
        by_cases e : stn v z a i ≤ stn v z a b
        · rw [if_pos e, if_pos e]
        · rw [if_neg e, if_neg e]; rfl
    · rw [if_pos (show b2i (decide (hsR v z a i)) = 0 from by rw [decide_eq_false c]; rfl), show wrl v z a (i + 1) = wrl v z a i from best_f (decide_eq_false c)]
  · show b_X8_worstLine_9 _ (nI (nN v)) ν = _
    unfold b_X8_worstLine_9
    rw [m_cN H.1, Option.bind_some, if_pos (nI_le (Nat.le_refl _) (by omega))]
end HT
def rsS (v : Nat → Nat → Int32) (z : Int32) (a : Nat → Int64) : Nat → Int64
  | 0 => 0
  | k + 1 => if hsR v z a k then rsS v z a k + labs (msv v z a k) * (nI (1000000 / ln v k)).toInt64 else rsS v z a k
section G7
variable {μ : gM}
theorem sim_44 (R : Rel μ) : simOK μ (f_case_44 μ) := by
  have H := R.mh.fr (si60 0)
  refine ⟨si μ 60 6 0, ?_, R.fr (si60 0)⟩
  unfold f_case_44 f_X7_isAdjusted f_X8_isAdjusted
  rw [show (702 : Int32) = nI 702 from rfl, gck (by decide) (by decide), nI_clamp (by decide), H.2.1]
  rcases R.hm.1 with e | e
  · rw [show gi μ 20 2 = 0 from e]; rfl
  · rw [show gi μ 20 2 = 1 from e]; rfl
theorem sim_45 (s1 : Int32) (R : Rel μ) : simOK μ (f_case_45 s1 μ) := by
  have hb := R.1.b
  refine pureJ (fC := f_X7_heightOf s1 μ) (fM := f_X8_heightOf s1) R ?_
  rcases ix3 s1 (n := nP (nv 34 μ)) (by omega) with h | ⟨a, ha, rfl⟩
  · refine Or.inl ⟨?_, ?_⟩
    · unfold f_X7_heightOf; rw [R.co.P, needB (by omega) h]; rfl
    · unfold f_X8_heightOf; rw [m_pointB R.mo h]; rfl
  · refine Or.inr ⟨adh (gi μ 20 2) (μ.2 22) a, ?_, fun ν H => ?_⟩
    · unfold f_X7_heightOf; rw [R.co.P, needG (by omega) ha, Option.bind_some]
      show Option.bind (f_X0_settledHeight _ _) _ = _
      rw [c_sh R.hm.1 (by omega)]; rfl
    · unfold f_X8_heightOf; rw [m_pointG H.1 ha, Option.bind_some, failG, Option.bind_some]; simp only [bF, if_true]
      rw [m_ad (H.fr (si60 0)) R.hm.eq ha]; rfl
theorem sim_46 (s1 : Int32) (R : Rel μ) : simOK μ (f_case_46 s1 μ) := by
  have hb := R.1.b
  refine pureJ (fC := f_X7_residual s1 μ) (fM := f_X8_residual s1) R ?_
  rcases ix3 s1 (n := nN (nv 34 μ)) (by omega) with h | ⟨a, ha, rfl⟩
  · refine Or.inl ⟨?_, ?_⟩
    · unfold f_X7_residual; rw [R.co.N, needB (by omega) h]; rfl
    · unfold f_X8_residual; rw [m_lineB R.mo h]; rfl
  · refine Or.inr ⟨msf (nv 34 μ) (gi μ 20 2) (μ.2 22) a, ?_, fun ν H => ?_⟩
    · unfold f_X7_residual; rw [R.co.N, needG (by omega) ha, Option.bind_some]
      show Option.bind (f_X0_misfit _ _) _ = _
      rw [c_misfit R.co R.hm.1 ha]; rfl
    · have H1 := H.fr (si60 0)
      unfold f_X8_residual; rw [m_lineG H.1 ha, Option.bind_some, failG, Option.bind_some]; simp only [bF, if_true]
      rw [m_hasR H1 R.hm.eq ha, Option.bind_some]
      unfold msf
      by_cases c : hsR (nv 34 μ) (gi μ 20 2) (μ.2 22) a
      · rw [if_neg (show ¬ b2i (decide (hsR (nv 34 μ) (gi μ 20 2) (μ.2 22) a)) = 0 from by rw [decide_eq_true c]; decide), m_resO H1 R.hm.eq ha c, if_pos c]; rfl
      · rw [if_pos (show b2i (decide (hsR (nv 34 μ) (gi μ 20 2) (μ.2 22) a)) = 0 from by rw [decide_eq_false c]; rfl), if_neg c]
theorem sim_47 (R : Rel μ) : simOK μ (f_case_47 μ) := by
  have H1 := R.mh.fr (si60 0)
  refine caseE (fC := f_X7_worstLine μ) (fM := f_X8_worstLine μ) (w := oI (wrl (nv 34 μ) (gi μ 20 2) (μ.2 22) (nN (nv 34 μ)))) (μ2 := si μ 60 6 0) (c_wrl R.co R.hm) ?_ (si60 0) R
  unfold f_X8_worstLine
  rw [m_wrl H1 R.hm.eq]; rfl
theorem sim_49 (R : Rel μ) : simOK μ (f_case_49 μ) := by
  have hb := R.1.b
  have C := R.co
  have H1 := R.mh.fr (si60 0)
  refine caseE (fC := f_X7_residualSum μ) (fM := f_X8_residualSum μ) (w := rsS (nv 34 μ) (gi μ 20 2) (μ.2 22) (nN (nv 34 μ))) (μ2 := si μ 60 6 0) ?_ ?_ (si60 0) R
  · unfold f_X7_residualSum
    have h : gloop (fun t => b_X7_residualSum_4 t.1 t.2 μ) gFuel ((0 : Int64), (0 : Int32)) = some (rsS (nv 34 μ) (gi μ 20 2) (μ.2 22) (nN (nv 34 μ))) := by
      refine gloop_run (fun i => (rsS (nv 34 μ) (gi μ 20 2) (μ.2 22) i, nI i)) (nN (nv 34 μ)) (fun i hi => ?_) ?_ gFuel (by unfold gFuel; omega)
      · show b_X7_residualSum_4 _ (nI i) μ = some (Sum.inl ((if hsR (nv 34 μ) (gi μ 20 2) (μ.2 22) i then _ else _), nI (i + 1)))
        unfold b_X7_residualSum_4
        rw [C.N, if_neg (nI_ge hi (by omega)), c_misfit C R.hm.1 hi, Option.bind_some, nI_1]
        have hn := msf_n C.1 R.hm hi
        by_cases c : hsR (nv 34 μ) (gi μ 20 2) (μ.2 22) i
        · rw [if_neg (fun w => hn.mp w c), c_lineWeight C hi, Option.bind_some, if_pos c, show msf (nv 34 μ) (gi μ 20 2) (μ.2 22) i = msv (nv 34 μ) (gi μ 20 2) (μ.2 22) i from if_pos c]
        · rw [if_pos (hn.mpr c), if_neg c]
      · show b_X7_residualSum_4 _ (nI (nN (nv 34 μ))) μ = _
        unfold b_X7_residualSum_4
        rw [C.N, if_pos (nI_le (Nat.le_refl _) (by omega))]
    rw [h]; rfl
  · unfold f_X8_residualSum
    have h : gloop (fun t => b_X8_residualSum_9 t.1 t.2 (si μ 60 6 0)) gFuel ((0 : Int64), (0 : Int32)) = some (rsS (nv 34 μ) (gi μ 20 2) (μ.2 22) (nN (nv 34 μ))) := by
      refine gloop_run (fun i => (rsS (nv 34 μ) (gi μ 20 2) (μ.2 22) i, nI i)) (nN (nv 34 μ)) (fun i hi => ?_) ?_ gFuel (by unfold gFuel; omega)
      · show b_X8_residualSum_9 _ (nI i) (si μ 60 6 0) = some (Sum.inl ((if hsR (nv 34 μ) (gi μ 20 2) (μ.2 22) i then _ else _), nI (i + 1)))
        unfold b_X8_residualSum_9
        rw [m_cN H1.1, Option.bind_some, if_neg (nI_ge hi (by omega)), m_hasR H1 R.hm.eq hi, Option.bind_some, nI_1]
        by_cases c : hsR (nv 34 μ) (gi μ 20 2) (μ.2 22) i
        · rw [if_neg (show ¬ b2i (decide (hsR (nv 34 μ) (gi μ 20 2) (μ.2 22) i)) = 0 from by rw [decide_eq_true c]; decide), m_weight H1.1 hi, Option.bind_some, m_resO H1 R.hm.eq hi c, Option.bind_some, size_labs, Option.bind_some, if_pos c, Int64.mul_comm]
        · rw [if_pos (show b2i (decide (hsR (nv 34 μ) (gi μ 20 2) (μ.2 22) i)) = 0 from by rw [decide_eq_false c]; rfl), if_neg c, Int64.add_zero]
      · show b_X8_residualSum_9 _ (nI (nN (nv 34 μ))) _ = _
        unfold b_X8_residualSum_9
        rw [m_cN H1.1, Option.bind_some, if_pos (nI_le (Nat.le_refl _) (by omega))]
    rw [h]; rfl
end G7
/-! the point that moved most -/
def mvd (v : Nat → Nat → Int32) (z : Int32) (a : Nat → Int64) (p : Nat) : Int64 := labs (adh z a p - pv v p)
def mmv (v : Nat → Nat → Int32) (z : Int32) (a : Nat → Int64) : Nat → Option Nat := best (fun p => decide (¬ adh z a p = noH)) (mvd v z a)
section MM
variable {v : Nat → Nat → Int32} {μ ν : gM} {z : Int32} {a h : Nat → Int64} {d : Nat → Int32}
theorem mvd_b (C : CI v) (H : HM v z a d h) {p : Nat} (hp : p < nP v) (hr : ¬ adh z a p = noH) : 0 ≤ (mvd v z a p).toInt := by
  have b1 := H.bnd hp hr
  have e1 := adh_e hr
  have hpv : pv v p ≠ noH := by
    have h1 := (H.2.2 (adh_1 hr) p hp).2.1
    rw [e1] at hr
    intro w
    exact hr (h1.mpr ((pv_rch C p).mp w))
  have b2 := pv_b C hpv
  have e2 : (adh z a p - pv v p).toInt = (adh z a p).toInt - (pv v p).toInt := i64_sub (by omega)
  unfold mvd
  rw [labs_toInt (by omega)]
  omega
end MM
section G8
variable {μ : gM}
theorem sim_48 (R : Rel μ) : simOK μ (f_case_48 μ) := by
  have hb := R.1.b
  obtain ⟨ν1, e1, F1, h1⟩ := c_carry R.co
  have C1 := R.co.fr F1
  have R1 := R.fr F1
  obtain ⟨ν2, e2, F2, h2⟩ := m_lay (R1.mo.si6 0)
  have en : nv 34 ν1 = nv 34 μ := Fr_nv F1
  rw [en] at h2
  have H2 := (R1.mh.fr (si60 0)).fr F2.1
  have ez : gi ν1 20 2 = gi μ 20 2 := F1.1 20 2 rfl
  have ea : ν1.2 22 = μ.2 22 := F1.g 22 rfl
  have eh : ν1.2 64 = μ.2 64 := F1.g 64 rfl
  rw [en, ez, eh] at H2
  have hz := R.hm.1
  refine ⟨ν2, ?_, R1.fr ((si60 0).tr F2.1)⟩
  unfold f_case_48 f_X7_mostMoved f_X8_mostMoved
  have g : gloop (fun t => b_X7_mostMoved_20 t.1 t.2.1 t.2.2 ν1) gFuel ((-1 : Int32), (-1 : Int64), (0 : Int32)) = some (oI (mmv (nv 34 μ) (gi μ 20 2) (μ.2 22) (nP (nv 34 μ)))) := by
    refine gloop_run (fun i => (oI (mmv (nv 34 μ) (gi μ 20 2) (μ.2 22) i), bsv (mvd (nv 34 μ) (gi μ 20 2) (μ.2 22)) (mmv (nv 34 μ) (gi μ 20 2) (μ.2 22) i), nI i)) (nP (nv 34 μ)) (fun i hi => ?_) ?_ gFuel (by unfold gFuel; omega)
    · show b_X7_mostMoved_20 (oI (mmv (nv 34 μ) (gi μ 20 2) (μ.2 22) i)) (bsv (mvd (nv 34 μ) (gi μ 20 2) (μ.2 22)) (mmv (nv 34 μ) (gi μ 20 2) (μ.2 22) i)) (nI i) ν1 = some (Sum.inl (oI (mmv (nv 34 μ) (gi μ 20 2) (μ.2 22) (i + 1)), bsv (mvd (nv 34 μ) (gi μ 20 2) (μ.2 22)) (mmv (nv 34 μ) (gi μ 20 2) (μ.2 22) (i + 1)), nI (i + 1)))
      unfold b_X7_mostMoved_20
      rw [C1.P, if_neg (nI_ge hi (by omega)), c_sh (by rw [ez]; exact hz) (by omega), Option.bind_some, ez, ea, nI_1]
      simp (disch := omega) only [gck, nI_clamp]
      rw [h1 i hi]
      by_cases c : adh (gi μ 20 2) (μ.2 22) i = noH
      · rw [if_pos c, show mmv (nv 34 μ) (gi μ 20 2) (μ.2 22) (i + 1) = mmv (nv 34 μ) (gi μ 20 2) (μ.2 22) i from best_f (decide_eq_false (fun w => w c))]
      · rw [if_neg c]
        exact best_c (decide_eq_true c) (mvd_b R.1 R.hm hi c) (nI (i + 1))
    · show b_X7_mostMoved_20 _ _ (nI (nP (nv 34 μ))) ν1 = _
      unfold b_X7_mostMoved_20
      rw [C1.P, if_pos (nI_le (Nat.le_refl _) (by omega))]
  have g2 : gloop (fun t => b_X8_mostMoved_13 t.1 t.2 ν2) gFuel ((-1 : Int32), (0 : Int32)) = some (oI (mmv (nv 34 μ) (gi μ 20 2) (μ.2 22) (nP (nv 34 μ)))) := by
    have q64 : ∀ p, p < nP (nv 34 μ) → ¬ adh (gi μ 20 2) (μ.2 22) p = noH → gl ν2 64 p = adh (gi μ 20 2) (μ.2 22) p := fun p hp hr => by
      rw [adh_e hr, ← R.hm.eq (adh_1 hr) p hp, ← H2.2.2]; rfl
    refine gloop_run (fun i => (oI (mmv (nv 34 μ) (gi μ 20 2) (μ.2 22) i), nI i)) (nP (nv 34 μ)) (fun i hi => ?_) ?_ gFuel (by unfold gFuel; omega)
    · show b_X8_mostMoved_13 (oI (mmv (nv 34 μ) (gi μ 20 2) (μ.2 22) i)) (nI i) ν2 = some (Sum.inl (oI (mmv (nv 34 μ) (gi μ 20 2) (μ.2 22) (i + 1)), nI (i + 1)))
      unfold b_X8_mostMoved_13
      rw [m_cP H2.1, Option.bind_some, if_neg (nI_ge hi (by omega)), m_ad H2 R.hm.eq hi, Option.bind_some, nI_1]
      by_cases c : adh (gi μ 20 2) (μ.2 22) i = noH
      · rw [if_pos c, show mmv (nv 34 μ) (gi μ 20 2) (μ.2 22) (i + 1) = mmv (nv 34 μ) (gi μ 20 2) (μ.2 22) i from best_f (decide_eq_false (fun w => w c))]
      · rw [if_neg c]
        cases q : mmv (nv 34 μ) (gi μ 20 2) (μ.2 22) i with
        | none =>
          rw [show mmv (nv 34 μ) (gi μ 20 2) (μ.2 22) (i + 1) = some i from best_n (decide_eq_true c) q, if_pos (show oI none < 0 from by decide)]; rfl
        | some b =>
          have hb2 := best_p q
          have hrb := of_decide_eq_true hb2.2
          rw [show mmv (nv 34 μ) (gi μ 20 2) (μ.2 22) (i + 1) = _ from best_y (decide_eq_true c) q, if_neg (show ¬ oI (some b) < 0 from nI_pos (by omega)), show oI (some b) = nI b from rfl]
          simp (disch := omega) only [gck, nI_clamp]
          rw [q64 i hi c, h2 i hi, size_labs, Option.bind_some, q64 b (by omega) hrb, h2 b (by omega), size_labs, Option.bind_some]
          show (if mvd (nv 34 μ) (gi μ 20 2) (μ.2 22) i ≤ mvd (nv 34 μ) (gi μ 20 2) (μ.2 22) b then _ else _) = _
          by_cases e : mvd (nv 34 μ) (gi μ 20 2) (μ.2 22) i ≤ mvd (nv 34 μ) (gi μ 20 2) (μ.2 22) b
          · rw [if_pos e, if_pos e]; rfl
          · rw [if_neg e, if_neg e]; rfl
    · show b_X8_mostMoved_13 _ (nI (nP (nv 34 μ))) ν2 = _
      unfold b_X8_mostMoved_13
      rw [m_cP H2.1, Option.bind_some, if_pos (nI_le (Nat.le_refl _) (by omega))]
  rw [e1, Option.bind_some, g, Option.bind_some, Option.bind_some]
  show Option.bind (Option.bind (f_X8_layProvisional (si ν1 60 6 0)) _) _ = _
  rw [e2, Option.bind_some, g2, Option.bind_some, Option.bind_some]
  exact if_pos rfl
end G8

/-! adjusted heights: the operations that ask for them -/
theorem size_labs (x : Int64) (μ : gM) : f_X8_size x μ = some (labs x) := by
  have z : (0 : Int64).toInt = 0 := by decide
  unfold f_X8_size labs
  by_cases c : (0 : Int64) < x
  · rw [if_pos c, if_pos (Int64.le_of_lt c)]
  · rw [if_neg c]
    by_cases d : (0 : Int64) ≤ x
    · have e : x = 0 := by
        refine Int64.toInt_inj.mp ?_
        rw [Int64.lt_iff_toInt_lt, z] at c
        rw [Int64.le_iff_toInt_le, z] at d
        rw [z]; omega
      rw [e]; rfl
    · rw [if_neg d]
theorem labs_toInt {x : Int64} (h : -9223372036854775808 < x.toInt) : (labs x).toInt = (x.toInt.natAbs : Int) := by
  have h2 := Int64.toInt_lt x
  have z : (0 : Int64).toInt = 0 := by decide
  unfold labs
  by_cases c : (0 : Int64) < x
  · rw [if_pos c]
    rw [Int64.lt_iff_toInt_lt, z] at c
    omega
  · rw [if_neg c]
    rw [Int64.lt_iff_toInt_lt, z] at c
    rw [Int64.toInt_neg, Int.bmod_eq_of_le (by omega) (by omega)]
    omega
theorem labs_l {x : Int64} (h : -9223372036854775808 < x.toInt) : labs x = lN x.toInt.natAbs := by
  refine Int64.toInt_inj.mp ?_
  have h2 := Int64.toInt_lt x
  rw [labs_toInt h, pk_lT (by omega)]
/-- the model with its adjusted heights -/
def MH (v : Nat → Nat → Int32) (z : Int32) (h : Nat → Int64) (ν : gM) : Prop := MO v ν ∧ gi ν 61 702 = z ∧ ν.2 64 = h
theorem MH.fr {v : Nat → Nat → Int32} {z : Int32} {h : Nat → Int64} {μ ν : gM} (F : Fr μ ν) (H : MH v z h μ) : MH v z h ν := ⟨H.1.fr F, (F.1 61 702 rfl).trans H.2.1, (F.g 64 rfl).trans H.2.2⟩
theorem Rel.hm {μ : gM} (R : Rel μ) : HM (nv 34 μ) (gi μ 20 2) (μ.2 22) (μ.1 61) (μ.2 64) := R.2.2.2.1
theorem Rel.mh {μ : gM} (R : Rel μ) : MH (nv 34 μ) (gi μ 20 2) (μ.2 64) μ := ⟨R.mo, R.hm.2.1, rfl⟩
theorem Rel.mh77 {μ : gM} (R : Rel μ) (x : Int64) : MH (nv 34 μ) (gi μ 20 2) (μ.2 64) (sl μ 77 0 x) := ⟨(R.sl77 0 x).mo, R.hm.2.1, funext fun _ => if_neg (fun w => absurd w.1 (by decide))⟩
theorem pureJ {μ : gM} (R : Rel μ) {fC : Option (Option Int64)} {fM : gM → Option (Int64 × gM)} (h : (fC = some none ∧ fM μ = some (0, si μ 60 6 1)) ∨ ∃ w, fC = some (some w) ∧ ∀ ν, MH (nv 34 μ) (gi μ 20 2) (μ.2 64) ν → fM ν = some (w, si ν 60 6 0)) : simOK μ (caseJ (wrapJ fC μ) fM) := by
  rcases h with ⟨h1, h2⟩ | ⟨w, h1, h2⟩
  · exact caseJ_bad (μ1 := μ) (by rw [h1]; rfl) h2 gi_sii (R.fr (si60 1))
  · exact caseJ_good (μ1 := μ) (by rw [h1]; rfl) (h2 _ (R.mh77 w)) gi_sii ((Fr.rf _).si rfl) R
def adh (z : Int32) (a : Nat → Int64) (p : Nat) : Int64 := if z = 1 then a p else noH
abbrev hsR (v : Nat → Nat → Int32) (z : Int32) (a : Nat → Int64) (k : Nat) : Prop := (nA v).testBit k = true ∧ ¬ adh z a (fs v k) = noH ∧ ¬ adh z a (sn v k) = noH
def msv (v : Nat → Nat → Int32) (z : Int32) (a : Nat → Int64) (k : Nat) : Int64 := (adh z a (sn v k) - adh z a (fs v k)) - (ris v k).toInt64
def msf (v : Nat → Nat → Int32) (z : Int32) (a : Nat → Int64) (k : Nat) : Int64 := if hsR v z a k then msv v z a k else noH
section HT
variable {v : Nat → Nat → Int32} {μ ν : gM} {z : Int32} {a h : Nat → Int64} {d : Nat → Int32}
theorem c_sh (hz : gi μ 20 2 = 0 ∨ gi μ 20 2 = 1) {p : Nat} (hp : p < 16) : f_X0_settledHeight (nI p) μ = some (adh (gi μ 20 2) (μ.2 22) p) := by
  unfold f_X0_settledHeight adh
  rcases hz with e | e
  · rw [if_pos e, e, if_neg (by decide)]
  · rw [e, if_neg (by decide), if_pos rfl, gck hp (by decide), nI_clamp (by omega)]; rfl
theorem m_ad (H : MH v z h ν) (hh : z = 1 → ∀ p, p < nP v → h p = a p) {p : Nat} (hp : p < nP v) : f_X8_adjusted (nI p) ν = some (adh z a p) := by
  have hb := H.1.1.b
  unfold f_X8_adjusted adh
  rw [show (702 : Int32) = nI 702 from rfl, gck (by decide) (by decide), nI_clamp (by decide), H.2.1]
  by_cases c : z = 1
  · rw [if_pos c, if_pos c, gck (by omega) (by decide), nI_clamp (by omega), ← hh c p hp, ← H.2.2]; rfl
  · rw [if_neg c, if_neg c]
theorem c_misfit (C : CO v μ) (hz : gi μ 20 2 = 0 ∨ gi μ 20 2 = 1) {k : Nat} (hk : k < nN v) : f_X0_misfit (nI k) μ = some (msf v (gi μ 20 2) (μ.2 22) k) := by
  have hb := C.1.b
  have hg := C.1.g k hk
  unfold f_X0_misfit msf msv
  rw [gck (by omega) (by decide), nI_clamp (by omega), c_fs C hk, c_sh hz (by omega), Option.bind_some, gck (by omega) (by decide), c_sn C hk, c_sh hz (by omega), Option.bind_some, c_isActive C hk, Option.bind_some, c_lineRise C hk, Option.bind_some]
  by_cases c : (nA v).testBit k = true
  · rw [c, if_neg (by decide)]
    by_cases c1 : adh (gi μ 20 2) (μ.2 22) (fs v k) = noH
    · rw [if_pos c1, if_neg (fun w => w.2.1 c1)]
    · rw [if_neg c1]
      by_cases c2 : adh (gi μ 20 2) (μ.2 22) (sn v k) = noH
      · rw [if_pos c2, if_neg (fun w => w.2.2 c2)]
      · rw [if_neg c2, if_pos ⟨c, c1, c2⟩]
  · rw [if_neg (fun w => c w.1), Bool.not_eq_true _ ▸ c]; rfl
theorem m_hasR (H : MH v z h ν) (hh : z = 1 → ∀ p, p < nP v → h p = a p) {k : Nat} (hk : k < nN v) : f_X8_hasResidual (nI k) ν = some (decide (hsR v z a k)) := by
  have hb := H.1.1.b
  have hg := H.1.1.g k hk
  unfold f_X8_hasResidual
  rw [m_isActive H.1 hk, Option.bind_some, m_first H.1 hk, Option.bind_some, m_second H.1 hk, Option.bind_some, m_ad H hh hg.1, Option.bind_some, m_ad H hh hg.2, Option.bind_some]
  by_cases c : (nA v).testBit k = true
  · rw [c, if_neg (by decide)]
    by_cases c1 : adh z a (fs v k) = noH
    · rw [if_pos c1, decide_eq_false (fun w => w.2.1 c1)]
    · rw [if_neg c1]
      by_cases c2 : adh z a (sn v k) = noH
      · rw [if_pos c2, decide_eq_false (fun w => w.2.2 c2)]
      · rw [if_neg c2, decide_eq_true (show hsR v z a k from ⟨c, c1, c2⟩)]
  · rw [decide_eq_false (fun w => c w.1), Bool.not_eq_true _ ▸ c]; rfl
theorem adh_1 {p : Nat} (h : ¬ adh z a p = noH) : z = 1 := by
  unfold adh at h
  by_cases c : z = 1
  · exact c
  · rw [if_neg c] at h; exact absurd rfl h
theorem adh_e {p : Nat} (h : ¬ adh z a p = noH) : adh z a p = a p := if_pos (adh_1 h)
theorem m_resO (H : MH v z h ν) (hh : z = 1 → ∀ p, p < nP v → h p = a p) {k : Nat} (hk : k < nN v) (hr : hsR v z a k) : f_X8_residualOf (nI k) ν = some (msv v z a k) := by
  have hb := H.1.1.b
  have hg := H.1.1.g k hk
  have z1 := adh_1 hr.2.1
  unfold f_X8_residualOf msv
  rw [m_second H.1 hk, Option.bind_some, gck (by omega) (by decide), m_first H.1 hk, Option.bind_some, gck (by omega) (by decide), nI_clamp (by omega), nI_clamp (by omega), m_rise H.1 hk, Option.bind_some, adh_e hr.2.1, adh_e hr.2.2, ← hh z1 _ hg.1, ← hh z1 _ hg.2, ← H.2.2]
  rfl
theorem HM.bnd (H : HM v z a d h) {p : Nat} (hp : p < nP v) (h1 : ¬ adh z a p = noH) : -1000000000000 ≤ (adh z a p).toInt ∧ (adh z a p).toInt ≤ 1000000000000 := by
  have e := adh_e h1
  rw [e] at h1 ⊢
  exact (H.2.2 (adh_1 (a := a) (p := p) (by rw [e]; exact h1)) p hp).2.2.resolve_left h1
theorem HM.eq (H : HM v z a d h) : z = 1 → ∀ p, p < nP v → h p = a p := fun e p hp => (H.2.2 e p hp).1
theorem msv_b (C : CI v) (H : HM v z a d h) {k : Nat} (hk : k < nN v) (hr : hsR v z a k) : -2100000000000 ≤ (msv v z a k).toInt ∧ (msv v z a k).toInt ≤ 2100000000000 := by
  have hg := C.g k hk
  have b1 := H.bnd hg.1 hr.2.1
  have b2 := H.bnd hg.2 hr.2.2
  have b3 := ris_b C hk
  unfold msv
  have e1 : (adh z a (sn v k) - adh z a (fs v k)).toInt = (adh z a (sn v k)).toInt - (adh z a (fs v k)).toInt := i64_sub (by omega)
  rw [i64_sub (by rw [e1, Int32.toInt_toInt64]; omega), e1, Int32.toInt_toInt64]
  omega
theorem msf_n (C : CI v) (H : HM v z a d h) {k : Nat} (hk : k < nN v) : msf v z a k = noH ↔ ¬ hsR v z a k := by
  unfold msf
  by_cases c : hsR v z a k
  · rw [if_pos c]
    exact ⟨fun e => absurd e (noH_ne (by have := msv_b C H hk c; omega)), fun w => absurd c w⟩
  · rw [if_neg c]; exact ⟨fun _ => c, fun _ => rfl⟩
/-- per metre, of a line that has a residual -/
def stn (v : Nat → Nat → Int32) (z : Int32) (a : Nat → Int64) (k : Nat) : Int64 := ((1000 : Int64) * labs (msv v z a k)) / (nI (ln v k)).toInt64
theorem stn_b (C : CI v) (H : HM v z a d h) {k : Nat} (hk : k < nN v) (hr : hsR v z a k) : 0 ≤ (stn v z a k).toInt := by
  have b := msv_b C H hk hr
  have hl := (C.line hk).lnb
  unfold stn
  rw [labs_l (by omega), nI_l (by omega), show (1000 : Int64) = lN 1000 from rfl, lN_mul, pk_lDiv (by omega) (by omega) (by omega), pk_lT (Nat.lt_of_le_of_lt (Nat.div_le_self _ _) (by omega))]
  omega
def wrl (v : Nat → Nat → Int32) (z : Int32) (a : Nat → Int64) : Nat → Option Nat
  | 0 => none
  | k + 1 => match wrl v z a k with
    | none => if hsR v z a k then some k else none
    | some b => if hsR v z a k ∧ ¬ stn v z a k ≤ stn v z a b then some k else some b
theorem wrl_p : ∀ {k b : Nat}, wrl v z a k = some b → b < k ∧ hsR v z a b
  | 0, b, e => by cases e
  | k + 1, b, e => by
    unfold wrl at e
    cases q : wrl v z a k with
    | none =>
      rw [q] at e
      by_cases c : hsR v z a k
      · rw [show (if hsR v z a k then some k else none) = some k from if_pos c] at e
        cases e; exact ⟨by omega, c⟩
      · rw [show (if hsR v z a k then some k else none) = none from if_neg c] at e; cases e
    | some b2 =>
      rw [q] at e
      have h2 := wrl_p q
      by_cases c : hsR v z a k ∧ ¬ stn v z a k ≤ stn v z a b2
      · rw [show (if hsR v z a k ∧ ¬ stn v z a k ≤ stn v z a b2 then some k else some b2) = some k from if_pos c] at e
        cases e; exact ⟨by omega, c.1⟩
      · rw [show (if hsR v z a k ∧ ¬ stn v z a k ≤ stn v z a b2 then some k else some b2) = some b2 from if_neg c] at e
        cases e; exact ⟨by omega, h2.2⟩
def wrm (v : Nat → Nat → Int32) (z : Int32) (a : Nat → Int64) : Option Nat → Int64
  | none => -1
  | some b => stn v z a b
theorem l0_ne {n : Nat} (h0 : 0 < n) (h : n < 2 ^ 31) : ¬ (nI n).toInt64 = 0 := by
  rw [nI_l h, show (0 : Int64) = lN 0 from rfl, pk_lEQ (by omega) (by omega)]
  omega
theorem oI_neg {k : Nat} (h : k < 2 ^ 31) : (oI (some k) < 0) = False := eq_false (nI_pos h)
theorem m_strain (H : MH v z h ν) (hh : z = 1 → ∀ p, p < nP v → h p = a p) {k : Nat} (hk : k < nN v) (hr : hsR v z a k) : f_X8_strain (nI k) ν = some (stn v z a k) := by
  have hl := (H.1.1.line hk).lnb
  unfold f_X8_strain
  rw [m_resO H hh hk hr, Option.bind_some, size_labs, Option.bind_some, m_length H.1 hk, Option.bind_some, gckb (l0_ne (by omega) (by omega))]
  rfl
theorem c_wrl (C : CO v μ) (H : HM v (gi μ 20 2) (μ.2 22) d h) : f_X7_worstLine μ = some (oI (wrl v (gi μ 20 2) (μ.2 22) (nN v))) := by
  have hb := C.1.b
  unfold f_X7_worstLine
  have g : gloop (fun t => b_X7_worstLine_9 t.1 t.2.1 t.2.2 μ) gFuel ((-1 : Int32), (-1 : Int64), (0 : Int32)) = some (oI (wrl v (gi μ 20 2) (μ.2 22) (nN v))) := by
    refine gloop_run (fun i => (oI (wrl v (gi μ 20 2) (μ.2 22) i), wrm v (gi μ 20 2) (μ.2 22) (wrl v (gi μ 20 2) (μ.2 22) i), nI i)) (nN v) (fun i hi => ?_) ?_ gFuel (by unfold gFuel; omega)
    · show b_X7_worstLine_9 _ _ (nI i) μ = _
      have hl := (C.1.line hi).lnb
      unfold b_X7_worstLine_9
      rw [C.N, if_neg (nI_ge hi (by omega)), c_misfit C H.1 hi, Option.bind_some, c_lineLength C hi, Option.bind_some, if_neg (nI_nle (n := ln v i) (by omega) (by omega)), gckb (l0_ne (by omega) (by omega)), nI_1]
      have hn := msf_n C.1 H hi
      by_cases c : hsR v (gi μ 20 2) (μ.2 22) i
      · rw [if_neg (fun w => hn.mp w c), show msf v (gi μ 20 2) (μ.2 22) i = msv v (gi μ 20 2) (μ.2 22) i from if_pos c]
        show (if stn v (gi μ 20 2) (μ.2 22) i ≤ _ then _ else some (Sum.inl (nI i, stn v (gi μ 20 2) (μ.2 22) i, nI (i + 1)))) = _
        have sb := stn_b C.1 H hi c
        show _ = some (Sum.inl (oI (wrl v (gi μ 20 2) (μ.2 22) (i + 1)), wrm v (gi μ 20 2) (μ.2 22) (wrl v (gi μ 20 2) (μ.2 22) (i + 1)), nI (i + 1)))
        unfold wrl
        cases q : wrl v (gi μ 20 2) (μ.2 22) i with
        | none =>
          have z1 : (-1 : Int64).toInt = -1 := by decide
          show (if stn v (gi μ 20 2) (μ.2 22) i ≤ -1 then _ else _) = some (Sum.inl (oI (if _ then _ else _), wrm v (gi μ 20 2) (μ.2 22) (if _ then _ else _), nI (i + 1)))
          rw [if_neg (fun w => by rw [Int64.le_iff_toInt_le, z1] at w; omega), if_pos c]; rfl
        | some b =>
          show (if stn v (gi μ 20 2) (μ.2 22) i ≤ stn v (gi μ 20 2) (μ.2 22) b then _ else _) = some (Sum.inl (oI (if _ then _ else _), wrm v (gi μ 20 2) (μ.2 22) (if _ then _ else _), nI (i + 1)))
          by_cases e : stn v (gi μ 20 2) (μ.2 22) i ≤ stn v (gi μ 20 2) (μ.2 22) b
          · rw [if_pos e, if_neg (fun w => w.2 e)]; rfl
          · rw [if_neg e, if_pos ⟨c, e⟩]; rfl
      · rw [if_pos (hn.mpr c)]
        show _ = some (Sum.inl (oI (wrl v (gi μ 20 2) (μ.2 22) (i + 1)), wrm v (gi μ 20 2) (μ.2 22) (wrl v (gi μ 20 2) (μ.2 22) (i + 1)), nI (i + 1)))
        rw [show wrl v (gi μ 20 2) (μ.2 22) (i + 1) = wrl v (gi μ 20 2) (μ.2 22) i from by
          show (match wrl v (gi μ 20 2) (μ.2 22) i with | none => _ | some b => _) = _
          cases q : wrl v (gi μ 20 2) (μ.2 22) i with
          | none => exact if_neg c
          | some b => exact if_neg (fun w => c w.1)]
    · show b_X7_worstLine_9 _ _ (nI (nN v)) μ = _
      unfold b_X7_worstLine_9
      rw [C.N, if_pos (nI_le (Nat.le_refl _) (by omega))]
  rw [g]; rfl
theorem m_wrl (H : MH v z h ν) (hh : z = 1 → ∀ p, p < nP v → h p = a p) : gloop (fun t => b_X8_worstLine_9 t.1 t.2 ν) gFuel ((-1 : Int32), (0 : Int32)) = some (oI (wrl v z a (nN v))) := by
  have hb := H.1.1.b
  refine gloop_run (fun i => (oI (wrl v z a i), nI i)) (nN v) (fun i hi => ?_) ?_ gFuel (by unfold gFuel; omega)
  · show b_X8_worstLine_9 _ (nI i) ν = some (Sum.inl (oI (wrl v z a (i + 1)), nI (i + 1)))
    unfold b_X8_worstLine_9
    rw [m_cN H.1, Option.bind_some, if_neg (nI_ge hi (by omega)), m_hasR H hh hi, Option.bind_some, nI_1]
    unfold wrl
    cases q : wrl v z a i with
    | none =>
      show _ = some (Sum.inl (oI (if hsR v z a i then some i else none), nI (i + 1)))
      by_cases c : hsR v z a i
      · rw [decide_eq_true c, if_neg (by decide), if_pos (show oI none < 0 from by decide), if_pos c]; rfl
      · rw [decide_eq_false c, if_pos rfl, if_neg c]
    | some b =>
      have hb2 := wrl_p q
      show _ = some (Sum.inl (oI (if hsR v z a i ∧ ¬ stn v z a i ≤ stn v z a b then some i else some b), nI (i + 1)))
      by_cases c : hsR v z a i
      · rw [decide_eq_true c, if_neg (by decide), if_neg (show ¬ oI (some b) < 0 from nI_pos (by omega)), m_strain H hh hi c, Option.bind_some]
        show Option.bind (f_X8_strain (nI b) ν) _ = _
        rw [m_strain H hh (by omega) hb2.2, Option.bind_some]
        by_cases e : stn v z a i ≤ stn v z a b
        · rw [if_pos e, if_neg (fun w => w.2 e)]; rfl
        · rw [if_neg e, if_pos ⟨c, e⟩]; rfl
      · rw [decide_eq_false c, if_pos rfl, if_neg (fun w => c w.1)]
  · show b_X8_worstLine_9 _ (nI (nN v)) ν = _
    unfold b_X8_worstLine_9
    rw [m_cN H.1, Option.bind_some, if_pos (nI_le (Nat.le_refl _) (by omega))]
end HT
def rsS (v : Nat → Nat → Int32) (z : Int32) (a : Nat → Int64) : Nat → Int64
  | 0 => 0
  | k + 1 => if hsR v z a k then rsS v z a k + labs (msv v z a k) * (nI (1000000 / ln v k)).toInt64 else rsS v z a k
section G7
variable {μ : gM}
theorem sim_44 (R : Rel μ) : simOK μ (f_case_44 μ) := by
  have H := R.mh.fr (si60 0)
  refine ⟨si μ 60 6 0, ?_, R.fr (si60 0)⟩
  unfold f_case_44 f_X7_isAdjusted f_X8_isAdjusted
  rw [show (702 : Int32) = nI 702 from rfl, gck (by decide) (by decide), nI_clamp (by decide), H.2.1]
  rcases R.hm.1 with e | e
  · rw [show gi μ 20 2 = 0 from e]; rfl
  · rw [show gi μ 20 2 = 1 from e]; rfl
theorem sim_45 (s1 : Int32) (R : Rel μ) : simOK μ (f_case_45 s1 μ) := by
  have hb := R.1.b
  refine pureJ (fC := f_X7_heightOf s1 μ) (fM := f_X8_heightOf s1) R ?_
  rcases ix3 s1 (n := nP (nv 34 μ)) (by omega) with h | ⟨a, ha, rfl⟩
  · refine Or.inl ⟨?_, ?_⟩
    · unfold f_X7_heightOf; rw [R.co.P, needB (by omega) h]; rfl
    · unfold f_X8_heightOf; rw [m_pointB R.mo h]; rfl
  · refine Or.inr ⟨adh (gi μ 20 2) (μ.2 22) a, ?_, fun ν H => ?_⟩
    · unfold f_X7_heightOf; rw [R.co.P, needG (by omega) ha, Option.bind_some]
      show Option.bind (f_X0_settledHeight _ _) _ = _
      rw [c_sh R.hm.1 (by omega)]; rfl
    · unfold f_X8_heightOf; rw [m_pointG H.1 ha, Option.bind_some, failG, Option.bind_some]; simp only [bF, if_true]
      rw [m_ad (H.fr (si60 0)) R.hm.eq ha]; rfl
theorem sim_46 (s1 : Int32) (R : Rel μ) : simOK μ (f_case_46 s1 μ) := by
  have hb := R.1.b
  refine pureJ (fC := f_X7_residual s1 μ) (fM := f_X8_residual s1) R ?_
  rcases ix3 s1 (n := nN (nv 34 μ)) (by omega) with h | ⟨a, ha, rfl⟩
  · refine Or.inl ⟨?_, ?_⟩
    · unfold f_X7_residual; rw [R.co.N, needB (by omega) h]; rfl
    · unfold f_X8_residual; rw [m_lineB R.mo h]; rfl
  · refine Or.inr ⟨msf (nv 34 μ) (gi μ 20 2) (μ.2 22) a, ?_, fun ν H => ?_⟩
    · unfold f_X7_residual; rw [R.co.N, needG (by omega) ha, Option.bind_some]
      show Option.bind (f_X0_misfit _ _) _ = _
      rw [c_misfit R.co R.hm.1 ha]; rfl
    · have H1 := H.fr (si60 0)
      unfold f_X8_residual; rw [m_lineG H.1 ha, Option.bind_some, failG, Option.bind_some]; simp only [bF, if_true]
      rw [m_hasR H1 R.hm.eq ha, Option.bind_some]
      unfold msf
      by_cases c : hsR (nv 34 μ) (gi μ 20 2) (μ.2 22) a
      · rw [decide_eq_true c, if_neg (by decide), m_resO H1 R.hm.eq ha c, if_pos c]; rfl
      · rw [decide_eq_false c, if_pos rfl, if_neg c]
theorem sim_47 (R : Rel μ) : simOK μ (f_case_47 μ) := by
  have H1 := R.mh.fr (si60 0)
  refine caseE (fC := f_X7_worstLine μ) (fM := f_X8_worstLine μ) (w := oI (wrl (nv 34 μ) (gi μ 20 2) (μ.2 22) (nN (nv 34 μ)))) (μ2 := si μ 60 6 0) (c_wrl R.co R.hm) ?_ (si60 0) R
  unfold f_X8_worstLine
  rw [m_wrl H1 R.hm.eq]; rfl
theorem sim_49 (R : Rel μ) : simOK μ (f_case_49 μ) := by
  have hb := R.1.b
  have C := R.co
  have H1 := R.mh.fr (si60 0)
  refine caseE (fC := f_X7_residualSum μ) (fM := f_X8_residualSum μ) (w := rsS (nv 34 μ) (gi μ 20 2) (μ.2 22) (nN (nv 34 μ))) (μ2 := si μ 60 6 0) ?_ ?_ (si60 0) R
  · unfold f_X7_residualSum
    have h : gloop (fun t => b_X7_residualSum_4 t.1 t.2 μ) gFuel ((0 : Int64), (0 : Int32)) = some (rsS (nv 34 μ) (gi μ 20 2) (μ.2 22) (nN (nv 34 μ))) := by
      refine gloop_run (fun i => (rsS (nv 34 μ) (gi μ 20 2) (μ.2 22) i, nI i)) (nN (nv 34 μ)) (fun i hi => ?_) ?_ gFuel (by unfold gFuel; omega)
      · show b_X7_residualSum_4 _ (nI i) μ = some (Sum.inl ((if hsR (nv 34 μ) (gi μ 20 2) (μ.2 22) i then _ else _), nI (i + 1)))
        unfold b_X7_residualSum_4
        rw [C.N, if_neg (nI_ge hi (by omega)), c_misfit C R.hm.1 hi, Option.bind_some, nI_1]
        have hn := msf_n C.1 R.hm hi
        by_cases c : hsR (nv 34 μ) (gi μ 20 2) (μ.2 22) i
        · rw [if_neg (fun w => hn.mp w c), c_lineWeight C hi, Option.bind_some, if_pos c, show msf (nv 34 μ) (gi μ 20 2) (μ.2 22) i = msv (nv 34 μ) (gi μ 20 2) (μ.2 22) i from if_pos c]
        · rw [if_pos (hn.mpr c), if_neg c]
      · show b_X7_residualSum_4 _ (nI (nN (nv 34 μ))) μ = _
        unfold b_X7_residualSum_4
        rw [C.N, if_pos (nI_le (Nat.le_refl _) (by omega))]
    rw [h]; rfl
  · unfold f_X8_residualSum
    have h : gloop (fun t => b_X8_residualSum_9 t.1 t.2 (si μ 60 6 0)) gFuel ((0 : Int64), (0 : Int32)) = some (rsS (nv 34 μ) (gi μ 20 2) (μ.2 22) (nN (nv 34 μ))) := by
      refine gloop_run (fun i => (rsS (nv 34 μ) (gi μ 20 2) (μ.2 22) i, nI i)) (nN (nv 34 μ)) (fun i hi => ?_) ?_ gFuel (by unfold gFuel; omega)
      · show b_X8_residualSum_9 _ (nI i) (si μ 60 6 0) = some (Sum.inl ((if hsR (nv 34 μ) (gi μ 20 2) (μ.2 22) i then _ else _), nI (i + 1)))
        unfold b_X8_residualSum_9
        rw [m_cN H1.1, Option.bind_some, if_neg (nI_ge hi (by omega)), m_hasR H1 R.hm.eq hi, Option.bind_some, nI_1]
        by_cases c : hsR (nv 34 μ) (gi μ 20 2) (μ.2 22) i
        · rw [decide_eq_true c, if_neg (by decide), m_weight H1.1 hi, Option.bind_some, m_resO H1 R.hm.eq hi c, Option.bind_some, size_labs, Option.bind_some, if_pos c, Int64.mul_comm]
        · rw [decide_eq_false c, if_pos rfl, if_neg c, Int64.add_zero]
      · show b_X8_residualSum_9 _ (nI (nN (nv 34 μ))) _ = _
        unfold b_X8_residualSum_9
        rw [m_cN H1.1, Option.bind_some, if_pos (nI_le (Nat.le_refl _) (by omega))]
    rw [h]; rfl
end G7
/-! the point that moved most -/
def mvd (v : Nat → Nat → Int32) (z : Int32) (a : Nat → Int64) (p : Nat) : Int64 := labs (adh z a p - pv v p)
def mmv (v : Nat → Nat → Int32) (z : Int32) (a : Nat → Int64) : Nat → Option Nat
  | 0 => none
  | p + 1 => match mmv v z a p with
    | none => if adh z a p = noH then none else some p
    | some b => if ¬ adh z a p = noH ∧ ¬ mvd v z a p ≤ mvd v z a b then some p else some b
def mmm (v : Nat → Nat → Int32) (z : Int32) (a : Nat → Int64) : Option Nat → Int64
  | none => -1
  | some b => mvd v z a b
section MM
variable {v : Nat → Nat → Int32} {μ ν : gM} {z : Int32} {a h : Nat → Int64} {d : Nat → Int32}
theorem mmv_p : ∀ {k b : Nat}, mmv v z a k = some b → b < k ∧ ¬ adh z a b = noH
  | 0, b, e => by cases e
  | k + 1, b, e => by
    unfold mmv at e
    cases q : mmv v z a k with
    | none =>
      rw [q] at e
      by_cases c : adh z a k = noH
      · rw [show (if adh z a k = noH then none else some k) = none from if_pos c] at e; cases e
      · rw [show (if adh z a k = noH then none else some k) = some k from if_neg c] at e
        cases e; exact ⟨by omega, c⟩
    | some b2 =>
      rw [q] at e
      have h2 := mmv_p q
      by_cases c : ¬ adh z a k = noH ∧ ¬ mvd v z a k ≤ mvd v z a b2
      · rw [show (if ¬ adh z a k = noH ∧ ¬ mvd v z a k ≤ mvd v z a b2 then some k else some b2) = some k from if_pos c] at e
        cases e; exact ⟨by omega, c.1⟩
      · rw [show (if ¬ adh z a k = noH ∧ ¬ mvd v z a k ≤ mvd v z a b2 then some k else some b2) = some b2 from if_neg c] at e
        cases e; exact ⟨by omega, h2.2⟩
theorem mvd_b (C : CI v) (H : HM v z a d h) {p : Nat} (hp : p < nP v) (hr : ¬ adh z a p = noH) : 0 ≤ (mvd v z a p).toInt := by
  have b1 := H.bnd hp hr
  have e1 := adh_e hr
  have hpv : pv v p ≠ noH := by
    have h1 := (H.2.2 (adh_1 hr) p hp).2.1
    rw [e1] at hr
    intro w
    exact hr (h1.mpr ((pv_rch C p).mp w))
  have b2 := pv_b C hpv
  have e2 : (adh z a p - pv v p).toInt = (adh z a p).toInt - (pv v p).toInt := i64_sub (by omega)
  unfold mvd
  rw [labs_toInt (by omega)]
  omega
end MM
section G8
variable {μ : gM}
theorem sim_48 (R : Rel μ) : simOK μ (f_case_48 μ) := by
  have hb := R.1.b
  obtain ⟨ν1, e1, F1, h1⟩ := c_carry R.co
  have C1 := R.co.fr F1
  have R1 := R.fr F1
  obtain ⟨ν2, e2, F2, h2⟩ := m_lay (R1.mo.si6 0)
  have en : nv 34 ν1 = nv 34 μ := Fr_nv F1
  rw [en] at h2
  have H2 := (R1.mh.fr (si60 0)).fr F2.1
  have ez : gi ν1 20 2 = gi μ 20 2 := F1.1 20 2 rfl
  have ea : ν1.2 22 = μ.2 22 := F1.g 22 rfl
  have eh : ν1.2 64 = μ.2 64 := F1.g 64 rfl
  rw [en, ez, eh] at H2
  have hz := R.hm.1
  refine ⟨ν2, ?_, R1.fr ((si60 0).tr F2.1)⟩
  unfold f_case_48 f_X7_mostMoved f_X8_mostMoved
  have g : gloop (fun t => b_X7_mostMoved_20 t.1 t.2.1 t.2.2 ν1) gFuel ((-1 : Int32), (-1 : Int64), (0 : Int32)) = some (oI (mmv (nv 34 μ) (gi μ 20 2) (μ.2 22) (nP (nv 34 μ)))) := by
    refine gloop_run (fun i => (oI (mmv (nv 34 μ) (gi μ 20 2) (μ.2 22) i), mmm (nv 34 μ) (gi μ 20 2) (μ.2 22) (mmv (nv 34 μ) (gi μ 20 2) (μ.2 22) i), nI i)) (nP (nv 34 μ)) (fun i hi => ?_) ?_ gFuel (by unfold gFuel; omega)
    · show b_X7_mostMoved_20 _ _ (nI i) ν1 = some (Sum.inl (oI (mmv (nv 34 μ) (gi μ 20 2) (μ.2 22) (i + 1)), mmm (nv 34 μ) (gi μ 20 2) (μ.2 22) (mmv (nv 34 μ) (gi μ 20 2) (μ.2 22) (i + 1)), nI (i + 1)))
      unfold b_X7_mostMoved_20
      rw [C1.P, if_neg (nI_ge hi (by omega)), c_sh (by rw [ez]; exact hz) (by omega), Option.bind_some, ez, ea, gck (by omega) (by decide), nI_clamp (by omega), h1 i hi, nI_1]
      by_cases c : adh (gi μ 20 2) (μ.2 22) i = noH
      · rw [if_pos c, show mmv (nv 34 μ) (gi μ 20 2) (μ.2 22) (i + 1) = mmv (nv 34 μ) (gi μ 20 2) (μ.2 22) i from by
          show (match mmv (nv 34 μ) (gi μ 20 2) (μ.2 22) i with | none => _ | some b => _) = _
          cases q : mmv (nv 34 μ) (gi μ 20 2) (μ.2 22) i with
          | none => exact if_pos c
          | some b => exact if_neg (fun w => w.1 c)]
      · rw [if_neg c]
        have sb := mvd_b R.1 R.hm hi c
        show (if mvd (nv 34 μ) (gi μ 20 2) (μ.2 22) i ≤ _ then _ else some (Sum.inl (nI i, mvd (nv 34 μ) (gi μ 20 2) (μ.2 22) i, nI (i + 1)))) = _
        unfold mmv
        cases q : mmv (nv 34 μ) (gi μ 20 2) (μ.2 22) i with
        | none =>
          have z1 : (-1 : Int64).toInt = -1 := by decide
          show (if mvd (nv 34 μ) (gi μ 20 2) (μ.2 22) i ≤ -1 then _ else _) = some (Sum.inl (oI (if _ then _ else _), mmm (nv 34 μ) (gi μ 20 2) (μ.2 22) (if _ then _ else _), nI (i + 1)))
          rw [if_neg (fun w => by rw [Int64.le_iff_toInt_le, z1] at w; omega), if_neg c]; rfl
        | some b =>
          show (if mvd (nv 34 μ) (gi μ 20 2) (μ.2 22) i ≤ mvd (nv 34 μ) (gi μ 20 2) (μ.2 22) b then _ else _) = some (Sum.inl (oI (if _ then _ else _), mmm (nv 34 μ) (gi μ 20 2) (μ.2 22) (if _ then _ else _), nI (i + 1)))
          by_cases e : mvd (nv 34 μ) (gi μ 20 2) (μ.2 22) i ≤ mvd (nv 34 μ) (gi μ 20 2) (μ.2 22) b
          · rw [if_pos e, if_neg (fun w => w.2 e)]; rfl
          · rw [if_neg e, if_pos ⟨c, e⟩]; rfl
    · show b_X7_mostMoved_20 _ _ (nI (nP (nv 34 μ))) ν1 = _
      unfold b_X7_mostMoved_20
      rw [C1.P, if_pos (nI_le (Nat.le_refl _) (by omega))]
  have g2 : gloop (fun t => b_X8_mostMoved_13 t.1 t.2 ν2) gFuel ((-1 : Int32), (0 : Int32)) = some (oI (mmv (nv 34 μ) (gi μ 20 2) (μ.2 22) (nP (nv 34 μ)))) := by
    have q64 : ∀ p, p < nP (nv 34 μ) → ¬ adh (gi μ 20 2) (μ.2 22) p = noH → gl ν2 64 p = adh (gi μ 20 2) (μ.2 22) p := fun p hp hr => by
      rw [adh_e hr, ← R.hm.eq (adh_1 hr) p hp, ← H2.2.2]; rfl
    refine gloop_run (fun i => (oI (mmv (nv 34 μ) (gi μ 20 2) (μ.2 22) i), nI i)) (nP (nv 34 μ)) (fun i hi => ?_) ?_ gFuel (by unfold gFuel; omega)
    · show b_X8_mostMoved_13 _ (nI i) ν2 = some (Sum.inl (oI (mmv (nv 34 μ) (gi μ 20 2) (μ.2 22) (i + 1)), nI (i + 1)))
      unfold b_X8_mostMoved_13
      rw [m_cP H2.1, Option.bind_some, if_neg (nI_ge hi (by omega)), m_ad H2 R.hm.eq hi, Option.bind_some, nI_1]
      unfold mmv
      cases q : mmv (nv 34 μ) (gi μ 20 2) (μ.2 22) i with
      | none =>
        show _ = some (Sum.inl (oI (if adh (gi μ 20 2) (μ.2 22) i = noH then none else some i), nI (i + 1)))
        by_cases c : adh (gi μ 20 2) (μ.2 22) i = noH
        · rw [if_pos c, if_pos c]
        · rw [if_neg c, if_pos (show oI none < 0 from by decide), if_neg c]; rfl
      | some b =>
        have hb2 := mmv_p q
        show _ = some (Sum.inl (oI (if ¬ adh (gi μ 20 2) (μ.2 22) i = noH ∧ ¬ mvd (nv 34 μ) (gi μ 20 2) (μ.2 22) i ≤ mvd (nv 34 μ) (gi μ 20 2) (μ.2 22) b then some i else some b), nI (i + 1)))
        by_cases c : adh (gi μ 20 2) (μ.2 22) i = noH
        · rw [if_pos c, if_neg (fun w => w.1 c)]
        · rw [if_neg c, if_neg (show ¬ oI (some b) < 0 from nI_pos (by omega)), gck (by omega) (by decide), gck (by omega) (by decide), nI_clamp (by omega), q64 i hi c, h2 i hi, size_labs, Option.bind_some]
          show gchk (gIn (nI b) 16) (gchk (gIn (nI b) 16) (Option.bind (f_X8_size (gl ν2 64 (nI b).toNatClampNeg - gl ν2 76 (nI b).toNatClampNeg) ν2) _)) = _
          rw [gck (by omega) (by decide), gck (by omega) (by decide), nI_clamp (by omega), q64 b (by omega) hb2.2, h2 b (by omega), size_labs, Option.bind_some]
          show (if mvd (nv 34 μ) (gi μ 20 2) (μ.2 22) i ≤ mvd (nv 34 μ) (gi μ 20 2) (μ.2 22) b then _ else _) = _
          by_cases e : mvd (nv 34 μ) (gi μ 20 2) (μ.2 22) i ≤ mvd (nv 34 μ) (gi μ 20 2) (μ.2 22) b
          · rw [if_pos e, if_neg (fun w => w.2 e)]; rfl
          · rw [if_neg e, if_pos ⟨c, e⟩]; rfl
    · show b_X8_mostMoved_13 _ (nI (nP (nv 34 μ))) ν2 = _
      unfold b_X8_mostMoved_13
      rw [m_cP H2.1, Option.bind_some, if_pos (nI_le (Nat.le_refl _) (by omega))]
  rw [e1, Option.bind_some, g, Option.bind_some, Option.bind_some]
  show Option.bind (Option.bind (f_X8_layProvisional (si ν1 60 6 0)) _) _ = _
  rw [e2, Option.bind_some, g2, Option.bind_some, Option.bind_some]
  exact if_pos rfl
end G8

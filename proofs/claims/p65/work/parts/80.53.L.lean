/-! lines: both sides' numbers of a line -/
theorem gck {α : Type} {a n : Nat} {x : Option α} {inst : Decidable (gIn (nI a) n)} (h : a < n) (hn : n < 2 ^ 31) : @gchk α (gIn (nI a) n) inst x = x := if_pos (gIn_nI h hn)
theorem gckb {α : Type} {b : Prop} {x : Option α} {inst : Decidable b} (h : b) : @gchk α b inst x = x := if_pos h
/-- the model holds the network v -/
def MO (v : Nat → Nat → Int32) (μ : gM) : Prop := CI v ∧ DM v (μ.1 61) ∧ FM v (μ.1 66)
theorem Rel.mo {μ : gM} (R : Rel μ) : MO (nv 34 μ) μ := ⟨R.1, R.2.1, R.2.2.1⟩
theorem MO.fr {v : Nat → Nat → Int32} {μ ν : gM} (h : Fr μ ν) (M : MO v μ) : MO v ν := by
  unfold MO
  rw [h.f 61 (fun _ => rfl), h.f 66 (fun _ => rfl)]
  exact M
/-- the class holds the network v -/
def CO (v : Nat → Nat → Int32) (μ : gM) : Prop := CI v ∧ nv 34 μ = v
theorem Rel.co {μ : gM} (R : Rel μ) : CO (nv 34 μ) μ := ⟨R.1, rfl⟩
theorem CO.fr {v : Nat → Nat → Int32} {μ ν : gM} (h : Fr μ ν) (M : CO v μ) : CO v ν := ⟨M.1, (Fr_nv h).trans M.2⟩
theorem CO.at {v : Nat → Nat → Int32} {μ : gM} (M : CO v μ) (j i : Nat) (h : j < 13) : gi μ (34 + j) i = v j i := by rw [← M.2, nv_at j i h]
theorem CI.line {v : Nat → Nat → Int32} (C : CI v) {k : Nat} (h : k < nN v) : LI v k := C.2.2.2.2.2.1 k h
theorem CI.b {v : Nat → Nat → Int32} (C : CI v) : nL v ≤ 3 ∧ nP v ≤ 16 ∧ nN v ≤ 20 ∧ nT v ≤ 6 ∧ nA v < 2 ^ nN v := C.2.1
def rd (v : Nat → Nat → Int32) (k s w : Nat) : Nat := (v 10 (32 * k + 4 * s + w)).toNatClampNeg
def sm (v : Nat → Nat → Int32) (k w : Nat) : Nat → Nat
  | 0 => 0
  | n + 1 => sm v k w n + rd v k n w
def ln (v : Nat → Nat → Int32) (k : Nat) : Nat := sm v k 2 (ct v k) + sm v k 3 (ct v k)
def stp (v : Nat → Nat → Int32) (k s : Nat) : Int32 := (100 : Int32) * (v 10 (32 * k + 4 * s + 0) - v 10 (32 * k + 4 * s + 1)) - v 3 (lv v k) * (v 10 (32 * k + 4 * s + 2) - v 10 (32 * k + 4 * s + 3))
def rsm (v : Nat → Nat → Int32) (k : Nat) : Nat → Int32
  | 0 => 0
  | n + 1 => rsm v k n + stp v k n
def ris (v : Nat → Nat → Int32) (k : Nat) : Int32 := rsm v k (ct v k)
theorem inR_nI {lo hi : Int} {x : Int32} (h : inR lo hi x) (h0 : 0 ≤ lo) : x = nI x.toNatClampNeg ∧ (x.toNatClampNeg : Int) = x.toInt := by
  have e : (x.toNatClampNeg : Int) = x.toInt := by
    show (x.toInt.toNat : Int) = _
    exact Int.toNat_of_nonneg (Int.le_trans h0 h.1)
  refine ⟨?_, e⟩
  apply Int32.toInt_inj.mp
  have h3 : x.toInt < 2 ^ 31 := Int32.toInt_lt x
  rw [nI_toInt (by omega), e]
theorem LI.rdd {v : Nat → Nat → Int32} {k : Nat} (H : LI v k) {s : Nat} (hs : s < ct v k) {w : Nat} (hw : w < 4) : v 10 (32 * k + 4 * s + w) = nI (rd v k s w) ∧ rd v k s w ≤ 40000 ∧ (2 ≤ w → 1 ≤ rd v k s w ∧ rd v k s w ≤ 100) := by
  obtain ⟨h0, h1, h2, h3⟩ := H.2.2.2.2.2.2.2.2.2.2 s hs
  match w, hw with
  | 0, _ =>
    obtain ⟨e, f⟩ := inR_nI h0 (by decide)
    exact ⟨e, by have := h0.2; rw [← f] at this; exact Int.ofNat_le.mp this, fun c => absurd c (by decide)⟩
  | 1, _ =>
    obtain ⟨e, f⟩ := inR_nI h1 (by decide)
    exact ⟨e, by have := h1.2; rw [← f] at this; exact Int.ofNat_le.mp this, fun c => absurd c (by decide)⟩
  | 2, _ =>
    obtain ⟨e, f⟩ := inR_nI h2 (by decide)
    have a1 := h2.1
    have a2 := h2.2
    rw [← f] at a1 a2
    have b1 : 1 ≤ Int.toNat (v 10 (32 * k + 4 * s + 2)).toInt := Int.ofNat_le.mp a1
    have b2 : Int.toNat (v 10 (32 * k + 4 * s + 2)).toInt ≤ 100 := Int.ofNat_le.mp a2
    exact ⟨e, Nat.le_trans b2 (by decide), fun _ => ⟨b1, b2⟩⟩
  | 3, _ =>
    obtain ⟨e, f⟩ := inR_nI h3 (by decide)
    have a1 := h3.1
    have a2 := h3.2
    rw [← f] at a1 a2
    have b1 : 1 ≤ Int.toNat (v 10 (32 * k + 4 * s + 3)).toInt := Int.ofNat_le.mp a1
    have b2 : Int.toNat (v 10 (32 * k + 4 * s + 3)).toInt ≤ 100 := Int.ofNat_le.mp a2
    exact ⟨e, Nat.le_trans b2 (by decide), fun _ => ⟨b1, b2⟩⟩
  | w + 4, hw => exact absurd hw (by omega)
theorem sm_le {v : Nat → Nat → Int32} {k : Nat} (H : LI v k) {w : Nat} (hw : w < 4) (h2 : 2 ≤ w) : ∀ n, n ≤ ct v k → n ≤ sm v k w n ∧ sm v k w n ≤ 100 * n := by
  intro n
  induction n with
  | zero => intro _; exact ⟨Nat.le_refl _, Nat.le_refl _⟩
  | succ n ih =>
    intro h
    have i := ih (by omega)
    have r := (H.rdd (s := n) (by omega) hw).2.2 h2
    have e : sm v k w (n + 1) = sm v k w n + rd v k n w := rfl
    rw [e]
    omega
theorem LI.cnt {v : Nat → Nat → Int32} {k : Nat} (H : LI v k) : v 9 k = nI (ct v k) ∧ 1 ≤ ct v k ∧ ct v k ≤ 8 := ⟨H.2.2.2.2.2.2.2.1, H.2.2.2.2.2.2.2.2.1, H.2.2.2.2.2.2.2.2.2.1⟩
theorem LI.lnb {v : Nat → Nat → Int32} {k : Nat} (H : LI v k) : 2 ≤ ln v k ∧ ln v k ≤ 1600 := by
  have h := H.cnt
  have a := sm_le H (w := 2) (by decide) (by decide) (ct v k) (Nat.le_refl _)
  have b := sm_le H (w := 3) (by decide) (by decide) (ct v k) (Nat.le_refl _)
  have e : ln v k = sm v k 2 (ct v k) + sm v k 3 (ct v k) := rfl
  omega
section ML
variable {v : Nat → Nat → Int32} {μ : gM} {k : Nat}
end ML
theorem sh_l : ∀ n, n < 32 → ((nI n &&& 31).toBitVec.smod 32).toNat = n := by decide +kernel
theorem bitN {A k : Nat} (hA : A < 2 ^ 31) (hk : k < 32) : ((nI A) >>> (nI k &&& 31)) &&& (1 : Int32) = nI (if A.testBit k then 1 else 0) := by
  rw [pk_shrN hA _ k (sh_l k hk), pk_andN (Nat.lt_of_le_of_lt (Nat.div_le_self _ _) (by omega)) 1 (by decide), Nat.testBit_eq_decide_div_mod_eq]
  have h : A / 2 ^ k % 2 = 0 ∨ A / 2 ^ k % 2 = 1 := by omega
  rcases h with h | h
  · rw [show A / 2 ^ k % 2 ^ 1 = 0 by simpa using h]; rfl
  · rw [show A / 2 ^ k % 2 ^ 1 = 1 by simpa using h]; rfl
theorem oneShl {k : Nat} (hk : k < 32) : (1 : Int32) <<< (nI k &&& 31) = nI (2 ^ k) := by
  rw [n1, pk_shlN _ k (sh_l k hk) (by rw [Nat.one_mul]; exact Nat.pow_lt_pow_right (by decide) hk), Nat.one_mul]
section CL
variable {v : Nat → Nat → Int32} {μ : gM} {k : Nat}
theorem c_place (hk : k < 20) {s : Nat} (hs : s < 9) : f_X3_place (nI k) (nI s) μ = some (nI (32 * k + 4 * s)) := by
  unfold f_X3_place
  rw [n8, pk_mul, nI_add, n4, pk_mul]
  exact congrArg (fun q => some (nI q)) (by omega)
theorem c_setupRise (C : CO v μ) (hk : k < nN v) {s : Nat} (hs : s < ct v k) : f_X3_setupRise (nI k) (nI s) μ = some (stp v k s) := by
  have hb := C.1.b
  have hc := (C.1.line hk).cnt
  have hl := (C.1.line hk).2.2.2.2.2
  have e : gi μ 42 k = nI (lv v k) := (C.at 8 k (by decide)).trans hl.1
  have hv := hl.2.1
  unfold f_X3_setupRise
  rw [c_place (by omega) (by omega), Option.bind_some]
  simp (disch := omega) only [show (0 : Int32) = nI 0 from rfl, n1, n2, n3, nI_add, gck, nI_clamp, e]
  exact congrArg some (by rw [show gi μ 44 = v 10 from funext fun i => C.at 10 i (by decide), show gi μ 37 = v 3 from funext fun i => C.at 3 i (by decide)]; rfl)
theorem c_ct (C : CO v μ) (hk : k < nN v) : gi μ 43 k = nI (ct v k) := (C.at 9 k (by decide)).trans (C.1.line hk).cnt.1
theorem c_lineRise (C : CO v μ) (hk : k < nN v) : f_X3_lineRise (nI k) μ = some (ris v k) := by
  have hb := C.1.b
  have hc := (C.1.line hk).cnt
  unfold f_X3_lineRise
  have h : gloop (fun t => b_X3_lineRise_4 (nI k) t.1 t.2 μ) gFuel ((0 : Int32), (0 : Int32)) = some (ris v k) := by
    refine gloop_run (fun i => (rsm v k i, nI i)) (ct v k) (fun i hi => ?_) ?_ gFuel (by unfold gFuel; omega)
    · show b_X3_lineRise_4 (nI k) (rsm v k i) (nI i) μ = _
      unfold b_X3_lineRise_4
      rw [gck (by omega) (by decide), nI_clamp (by omega), c_ct C hk, if_neg (nI_ge hi (by omega)), c_setupRise C hk hi, Option.bind_some, nI_1]
      rfl
    · show b_X3_lineRise_4 (nI k) (rsm v k (ct v k)) (nI (ct v k)) μ = _
      unfold b_X3_lineRise_4
      rw [gck (by omega) (by decide), nI_clamp (by omega), c_ct C hk, if_pos (nI_le (Nat.le_refl _) (by omega))]
      rfl
  rw [h]; rfl
theorem c_fs (C : CO v μ) (hk : k < nN v) : gi μ 40 k = nI (fs v k) := (C.at 6 k (by decide)).trans (C.1.line hk).1
theorem c_sn (C : CO v μ) (hk : k < nN v) : gi μ 41 k = nI (sn v k) := (C.at 7 k (by decide)).trans (C.1.line hk).2.1
theorem c_riseFrom (C : CO v μ) (hk : k < nN v) {p : Nat} (hp : p < 2 ^ 31) : f_X3_riseFrom (nI k) (nI p) μ = some (if fs v k = p then ris v k else - ris v k) := by
  have hb := C.1.b
  have hf := (C.1.line hk).2.2.1
  unfold f_X3_riseFrom
  rw [gck (by omega) (by decide), nI_clamp (by omega), c_fs C hk, c_lineRise C hk]
  by_cases c : fs v k = p
  · rw [if_pos c, if_pos ((nI_eq (by omega) hp).mpr c)]; rfl
  · rw [if_neg c, if_neg (fun q => c ((nI_eq (by omega) hp).mp q))]; rfl
theorem c_rd (C : CO v μ) (hk : k < nN v) {s : Nat} (hs : s < ct v k) {w : Nat} (hw : w < 4) : gi μ 44 (32 * k + 4 * s + w) = nI (rd v k s w) := (C.at 10 _ (by decide)).trans ((C.1.line hk).rdd hs hw).1
theorem c_lineLength (C : CO v μ) (hk : k < nN v) : f_X3_lineLength (nI k) μ = some (nI (ln v k)) := by
  have hb := C.1.b
  have hc := (C.1.line hk).cnt
  unfold f_X3_lineLength
  have h : gloop (fun t => b_X3_lineLength_4 (nI k) t.1 t.2 μ) gFuel ((0 : Int32), (0 : Int32)) = some (nI (ln v k)) := by
    refine gloop_run (fun i => (nI (sm v k 2 i + sm v k 3 i), nI i)) (ct v k) (fun i hi => ?_) ?_ gFuel (by unfold gFuel; omega)
    · show b_X3_lineLength_4 (nI k) (nI (sm v k 2 i + sm v k 3 i)) (nI i) μ = _
      unfold b_X3_lineLength_4
      rw [gck (by omega) (by decide), nI_clamp (by omega), c_ct C hk, if_neg (nI_ge hi (by omega)), c_place (by omega) (by omega), Option.bind_some]
      simp (disch := omega) only [n2, n3, nI_add, gck, nI_clamp, c_rd C hk hi (w := 2) (by decide), c_rd C hk hi (w := 3) (by decide), nI_1]
      exact congrArg (fun q => some (Sum.inl (nI q, nI (i + 1)))) (show _ = (sm v k 2 i + rd v k i 2) + (sm v k 3 i + rd v k i 3) by omega)
    · show b_X3_lineLength_4 (nI k) _ (nI (ct v k)) μ = _
      unfold b_X3_lineLength_4
      rw [gck (by omega) (by decide), nI_clamp (by omega), c_ct C hk, if_pos (nI_le (Nat.le_refl _) (by omega))]
      rfl
  rw [h]; rfl
theorem c_lineWeight (C : CO v μ) (hk : k < nN v) : f_X3_lineWeight (nI k) μ = some (nI (1000000 / ln v k)) := by
  have h := (C.1.line hk).lnb
  unfold f_X3_lineWeight
  rw [c_lineLength C hk, Option.bind_some, if_neg (nI_nle (by omega) (by omega)), gckb (nI_ne0 (by omega) (by omega)), show (1000000 : Int32) = nI 1000000 from rfl, pk_div (by decide) (by omega) (by omega)]
theorem CI.A31 (C : CI v) : nA v < 2 ^ 31 := Nat.lt_trans C.b.2.2.2.2 (Nat.pow_lt_pow_right (by decide) (by have := C.b; omega))
theorem CO.A (C : CO v μ) : gi μ 34 4 = nI (nA v) := (C.at 0 4 (by decide)).trans C.1.1.2.2.2.2
theorem CO.N (C : CO v μ) : gi μ 34 2 = nI (nN v) := (C.at 0 2 (by decide)).trans C.1.1.2.2.1
theorem CO.P (C : CO v μ) : gi μ 34 1 = nI (nP v) := (C.at 0 1 (by decide)).trans C.1.1.2.1
theorem c_isActive (C : CO v μ) (hk : k < nN v) : f_X3_isActive (nI k) μ = some ((nA v).testBit k) := by
  have hb := C.1.b
  unfold f_X3_isActive
  rw [C.A, bitN C.1.A31 (by omega)]
  cases (nA v).testBit k <;> rfl
theorem c_across (C : CO v μ) (hk : k < nN v) {A p : Nat} (hA : A < 2 ^ 31) (hp : p < 2 ^ 31) : f_X3_across (nI A) (nI k) (nI p) μ = some (if A.testBit k = true ∧ fs v k = p then nI (sn v k) else if A.testBit k = true ∧ sn v k = p then nI (fs v k) else -1) := by
  have hb := C.1.b
  have hf := (C.1.line hk).2.2
  unfold f_X3_across
  rw [bitN hA (by omega)]
  cases ha : A.testBit k with
  | false => rfl
  | true =>
    show (if nI 1 = 0 then _ else _) = _
    rw [if_neg (by decide)]
    have e1 : (nI (fs v k) = nI p) = (fs v k = p) := eN (by omega) hp
    have e2 : (nI (sn v k) = nI p) = (sn v k = p) := eN (by omega) hp
    simp (disch := omega) only [gck, nI_clamp, c_fs C hk, c_sn C hk, e1, e2, true_and]
    by_cases c : fs v k = p
    · rw [if_pos c, if_pos c]
    · rw [if_neg c, if_neg c]
      by_cases d : sn v k = p
      · rw [if_pos d, if_pos d]
      · rw [if_neg d, if_neg d]
end CL

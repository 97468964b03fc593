/-! the loops as the class answers, and one step of the law's walk -/
section LPS
variable {v : Nat → Nat → Int32} {ν μ : gM}
theorem q_needLoop (Co : CO v μ) {i : Nat} (hi : i < nlp v (nA v)) : ∃ ρ, f_X7_needLoop (nI i) μ = some ρ ∧ Fr μ ρ ∧ FD v (nA v) ρ := by
  have hn := nlp_le (A := nA v) Co.1
  obtain ⟨ρ, e, F, H⟩ := c_findA Co
  refine ⟨ρ, ?_, F, H⟩
  unfold f_X7_needLoop
  rw [e, Option.bind_some, H.2.1, need_ok (by omega) hi, Option.bind_some]
def hc (v : Nat → Nat → Int32) : Option (Nat × Nat) → Int32
  | some x => enc v x
  | none => -1
theorem q_loopLine (Co : CO v μ) {i j : Nat} (hi : i < nlp v (nA v)) (hj : j < 100) : ∃ μ', f_X7_loopLine (nI i) (nI j) μ = some (hc v (XL v (nA v) i)[j]?, μ') ∧ Fr μ μ' := by
  have hn := nlp_le (A := nA v) Co.1
  obtain ⟨ρ, e, F, H⟩ := q_needLoop Co hi
  obtain ⟨h1, -⟩ := H.at hi
  obtain ⟨a, b, c⟩ := lpk_s hi
  obtain ⟨ρ2, e2, W, S, B, hl⟩ := c_walk (Co.fr F) H.1 a b.1
  refine ⟨ρ2, ?_, F.tr W.fr⟩
  unfold f_X7_loopLine
  rw [e, Option.bind_some, gck (by omega) (by decide), nI_clamp (by omega), h1, e2, Option.bind_some, B]
  by_cases d : j < (lway v (nA v) (lpk v (nA v) i)).length
  · have hx : (XL v (nA v) i)[j]? = some (lway v (nA v) (lpk v (nA v) i))[j] := List.getElem?_eq_getElem d
    rw [ixG (by omega) d, Option.bind_some, if_neg (by decide), gck (by omega) (by decide), nI_clamp (by omega), hx, S j _ hx]
    rfl
  · have hx : (XL v (nA v) i)[j]? = none := List.getElem?_eq_none (by exact Nat.not_lt.mp d)
    rw [ixB (by omega) (Or.inr (nI_le (by omega) (by omega))), Option.bind_some, if_pos (by decide), hx]
    rfl
theorem q_loopLength (Co : CO v μ) {i : Nat} (hi : i < nlp v (nA v)) : ∃ μ', f_X7_loopLength (nI i) μ = some (nI (wln v (XL v (nA v) i)), μ') ∧ Fr μ μ' := by
  have hn := nlp_le (A := nA v) Co.1
  obtain ⟨ρ, e, F, H⟩ := q_needLoop Co hi
  refine ⟨ρ, ?_, F⟩
  unfold f_X7_loopLength
  rw [e, Option.bind_some, gck (by omega) (by decide), nI_clamp (by omega), (H.at hi).2.2.1]
theorem q_misclosure (Co : CO v μ) {i : Nat} (hi : i < nlp v (nA v)) : ∃ μ', f_X7_misclosure (nI i) μ = some (wrs v (XL v (nA v) i), μ') ∧ Fr μ μ' := by
  have hn := nlp_le (A := nA v) Co.1
  obtain ⟨ρ, e, F, H⟩ := q_needLoop Co hi
  refine ⟨ρ, ?_, F⟩
  unfold f_X7_misclosure
  rw [e, Option.bind_some, gck (by omega) (by decide), nI_clamp (by omega), (H.at hi).2.2.2.1]
theorem q_allowed (Co : CO v μ) {i : Nat} (hi : i < nlp v (nA v)) : ∃ μ', f_X7_allowed (nI i) μ = some (lmt v (XL v (nA v) i), μ') ∧ Fr μ μ' := by
  have hn := nlp_le (A := nA v) Co.1
  obtain ⟨ρ, e, F, H⟩ := q_needLoop Co hi
  refine ⟨ρ, ?_, F⟩
  unfold f_X7_allowed
  rw [e, Option.bind_some, gck (by omega) (by decide), nI_clamp (by omega), (H.at hi).2.2.2.2]
theorem q_badLoops (Co : CO v μ) : ∃ μ', f_X7_badLoops μ = some (bsf v (nA v) (nlp v (nA v)), μ') ∧ Fr μ μ' := by
  obtain ⟨ρ, e, F, H⟩ := c_findA Co
  refine ⟨ρ, ?_, F⟩
  unfold f_X7_badLoops
  rw [e, Option.bind_some, c_badSet Co.1 H]
  rfl
theorem q_loopCount (Co : CO v μ) : ∃ μ', f_X7_loopCount μ = some (nI (nlp v (nA v)), μ') ∧ Fr μ μ' := by
  obtain ⟨ρ, e, F⟩ := c_cntL Co
  refine ⟨ρ, ?_, F⟩
  unfold f_X7_loopCount
  rw [e]; rfl
theorem q_treeLines (Co : CO v μ) : ∃ μ', f_X7_treeLines μ = some (tbr v (nA v), μ') ∧ Fr μ μ' := by
  obtain ⟨ρ, e, F, h6, T⟩ := c_grow Co (A := nA v) Co.1.A31
  refine ⟨ρ, ?_, F⟩
  unfold f_X7_treeLines
  rw [Co.A, e, Option.bind_some, T.2.2]
  rfl
theorem l_step (Co : CO v μ) (M : LM v ν) {i h : Nat} (hi : i < nlp v (nA v)) {pre rest : List (Nat × Nat)} {x : Nat × Nat} (hL : XL v (nA v) i = pre ++ x :: rest) (hp : pre.length < 50) (hx : x.1 < nN v) (hh : h < nP v) (h2 : x.2 = h) (hf : fs v x.1 = h ∨ sn v x.1 = h) {x4 x5 : Int32} (h0 : pre = [] → x5 = enc v x) (ht : pre ≠ [] → bt (tbr v (nA v)) x.1 = true ∧ bt (wset pre) x.1 = false) :
    ∃ μ', b_L_areLoops_154 (tbr v (nA v)) (nI i) x4 x5 (nI h) (wrs v pre) (nI (wln v pre)) (wset pre) (nI pre.length) (enc v x) ν μ = some (.inl (nI (oO v x.1 h), wrs v (pre ++ [x]), nI (wln v (pre ++ [x])), wset (pre ++ [x]), nI (pre.length + 1), hc v rest.head?, μ')) ∧ Fr μ μ' := by
  have C := Co.1
  have hb := M.b
  have hg := C.g x.1 hx
  have hne := (C.line hx).2.2.2.2.1
  obtain ⟨μ', e, F⟩ := q_loopLine Co hi (j := pre.length + 1) (by omega)
  have eh : (XL v (nA v) i)[pre.length + 1]? = rest.head? := by
    rw [hL, List.getElem?_append_right (by omega), show pre.length + 1 - pre.length = 1 by omega]
    cases rest <;> rfl
  rw [eh] at e
  refine ⟨μ', ?_, F⟩
  have h285 : ∀ (x6 x12 y0 y1 : Int32), x12 = nI x.1 → j_L_areLoops_285 (tbr v (nA v)) (nI i) x4 x5 x6 (nI (wln v pre)) (wset pre) (nI pre.length) x12 y0 y1 ν μ = some (.inl (x6, y0 + y1, nI (wln v (pre ++ [x])), wset (pre ++ [x]), nI (pre.length + 1), hc v rest.head?, μ')) := fun x6 x12 y0 y1 ex => by
    subst ex
    unfold j_L_areLoops_285
    rw [l_length C M hx, Option.bind_some, nI_1, e, Option.bind_some, nI_add, wln_a, wset_a]
  have h217 : ∀ x11 : Int32, j_L_areLoops_217 (tbr v (nA v)) (nI i) x4 x5 (nI h) (wrs v pre) (nI (wln v pre)) (wset pre) (nI pre.length) (nI x.1) (if fs v x.1 = x.2 then 0 else 1) ν μ = some (.inl (nI (oO v x.1 h), wrs v (pre ++ [x]), nI (wln v (pre ++ [x])), wset (pre ++ [x]), nI (pre.length + 1), hc v rest.head?, μ')) := fun x11 => by
    unfold j_L_areLoops_217 j_L_areLoops_234 j_L_areLoops_259
    rw [M.ll]
    simp (disch := omega) only [gck, nI_clamp]
    rw [wrs_a]
    by_cases c : fs v x.1 = h
    · rw [if_pos (show fs v x.1 = x.2 by rw [h2]; exact c), if_pos rfl, gckb (by decide), show gi ν (20 + x.1) (0 : Int32).toNatClampNeg = _ from M.f C hx, if_pos (by rw [c]), if_pos rfl, gckb (by decide), show gi ν (20 + x.1) (1 : Int32).toNatClampNeg = _ from M.s C hx, if_pos rfl, l_rise C M hx, Option.bind_some, h285 _ _ _ _ rfl]
      rw [show oO v x.1 h = sn v x.1 from if_pos c, show rfr v x.2 x.1 = ris v x.1 from if_pos (by rw [h2]; exact c)]
    · have c2 : sn v x.1 = h := hf.resolve_left c
      have c3 : ¬ fs v x.1 = x.2 := by rw [h2]; exact c
      rw [if_neg c3, if_neg (show ¬ (1 : Int32) = 0 by decide), gckb (by decide), show gi ν (20 + x.1) (1 : Int32).toNatClampNeg = _ from M.s C hx, if_pos (by rw [c2]), if_neg (show ¬ (1 : Int32) = 0 by decide), gckb (by decide), show gi ν (20 + x.1) (0 : Int32).toNatClampNeg = _ from M.f C hx, if_neg (show ¬ (1 : Int32) = 0 by decide), l_rise C M hx, Option.bind_some, h285 _ _ _ _ rfl]
      rw [show oO v x.1 h = fs v x.1 from if_neg c, show rfr v x.2 x.1 = - ris v x.1 from if_neg c3]
  have h178 : j_L_areLoops_178 (tbr v (nA v)) (nI i) x4 x5 (nI h) (wrs v pre) (nI (wln v pre)) (wset pre) (nI pre.length) (enc v x) (nI x.1) (if fs v x.1 = x.2 then 0 else 1) ν μ = some (.inl (nI (oO v x.1 h), wrs v (pre ++ [x]), nI (wln v (pre ++ [x])), wset (pre ++ [x]), nI (pre.length + 1), hc v rest.head?, μ')) := by
    unfold j_L_areLoops_178
    by_cases c : pre = []
    · rw [if_pos (by rw [c]; rfl), if_pos (h0 c).symm, h217 0]
    · have hl : 0 < pre.length := List.length_pos_iff.mpr c
      obtain ⟨t1, t2⟩ := ht c
      rw [if_neg (nI_ne0 hl (by omega)), b_test (by omega), b_test (by omega), if_pos t1, t2, if_neg (by decide), if_neg (by decide), h217 0]
  unfold b_L_areLoops_154
  have henc : enc v x = nI (if fs v x.1 = x.2 then x.1 else x.1 + 100) := by
    unfold enc
    split <;> rfl
  have hr : (enc v x) - (enc v x) / (100 : Int32) * (100 : Int32) = nI x.1 := by
    rw [henc, show (100 : Int32) = nI 100 from rfl, pk_rem (by split <;> omega) (by decide) (by decide)]
    congr 1
    split <;> omega
  rw [hr, henc, if_neg (nI_pos (by split <;> omega)), ← henc]
  by_cases c : fs v x.1 = x.2
  · rw [if_pos c] at h178
    rw [if_pos (by unfold enc; rw [if_pos c]; exact nI_lt (b := 100) (by omega) (by decide))]
    exact h178
  · rw [if_neg c] at h178
    rw [if_neg (by unfold enc; rw [if_neg c]; exact nI_nlt (a := x.1 + 100) (b := 100) (by omega) (by omega))]
    exact h178
end LPS

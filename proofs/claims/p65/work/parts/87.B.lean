/-! heights and misfits -/
section HEI
variable {v : Nat → Nat → Int32} {ν μ : gM}
/-- the law's adjusted heights beside the class's -/
def HA (v : Nat → Nat → Int32) (ν μ : gM) : Prop := (gi μ 20 2 = 0 ∨ gi μ 20 2 = 1) ∧ gi ν 0 10 = gi μ 20 2 ∧ (gi μ 20 2 = 1 → ∀ p, p < nP v → gl ν 9 p = gl μ 22 p)
theorem HA.fr {μ' : gM} (H : HA v ν μ) (F : Fr μ μ') : HA v ν μ' := by
  have e1 : gi μ' 20 2 = gi μ 20 2 := F.1 20 2 rfl
  have e2 : ∀ p, gl μ' 22 p = gl μ 22 p := fun p => F.2 22 p rfl
  unfold HA
  rw [e1]
  exact ⟨H.1, H.2.1, fun h p hp => by rw [e2]; exact H.2.2 h p hp⟩
theorem q_provisional (Co : CO v μ) {p : Nat} (hp : p < nP v) : ∃ μ', f_X7_provisional (nI p) μ = some (pv v p, μ') ∧ Fr μ μ' := by
  have hb := Co.1.b
  obtain ⟨ρ, e, F, H⟩ := c_carry Co
  refine ⟨ρ, ?_, F⟩
  unfold f_X7_provisional
  rw [Co.P, need_ok (by omega) hp, Option.bind_some, e, Option.bind_some, gck (by omega) (by decide), nI_clamp (by omega), H p hp]
theorem q_heldAt (Co : CO v μ) {p : Nat} (hp : p < nP v) : f_X7_heldAt (nI p) μ = some (v 5 p) := by
  have hb := Co.1.b
  unfold f_X7_heldAt
  rw [Co.P, need_ok (by omega) hp, Option.bind_some, gck (by omega) (by decide), nI_clamp (by omega)]
  exact congrArg some (Co.at 5 p (by decide))
theorem q_heightOf (Co : CO v μ) (hz : gi μ 20 2 = 0 ∨ gi μ 20 2 = 1) {p : Nat} (hp : p < nP v) : f_X7_heightOf (nI p) μ = some (adh (gi μ 20 2) (μ.2 22) p) := by
  have hb := Co.1.b
  unfold f_X7_heightOf
  rw [Co.P, need_ok (by omega) hp, Option.bind_some, c_sh hz (by omega)]
  rfl
theorem q_residual (Co : CO v μ) (hz : gi μ 20 2 = 0 ∨ gi μ 20 2 = 1) {k : Nat} (hk : k < nN v) : f_X7_residual (nI k) μ = some (msf v (gi μ 20 2) (μ.2 22) k) := by
  have hb := Co.1.b
  unfold f_X7_residual
  rw [Co.N, need_ok (by omega) hk, Option.bind_some, c_misfit Co hz hk]
  rfl
theorem HA.a (H : HA v ν μ) {p : Nat} (hp : p < nP v) (h1 : gi μ 20 2 = 1) : adh (gi μ 20 2) (μ.2 22) p = gl ν 9 p := by
  unfold adh
  rw [if_pos h1]
  exact (H.2.2 h1 p hp).symm
theorem l_hb7 (Co : CO v μ) (M : LM v ν) (H : HA v ν μ) {z0 : Nat → Int64} (hz : ∀ p, p < nP v → z0 p = pv v p) {p : Nat} (hp : p < nP v) : ∃ μ', b_L_areHeights_7 (nI p) z0 ν μ = some (.inl (nI (p + 1), z0, μ')) ∧ Fr μ μ' := by
  have hb := M.b
  obtain ⟨μ', e, F⟩ := q_provisional Co hp
  have Co1 := Co.fr F
  have H1 := H.fr F
  refine ⟨μ', ?_, F⟩
  have h57 : ∀ y0 y1 : Int64, y0 = y1 → j_L_areHeights_57 (nI p) y0 y1 z0 ν μ' = some (.inl (nI (p + 1), z0, μ')) := fun y0 y1 h => by
    unfold j_L_areHeights_57
    rw [if_pos h, q_heldAt Co1 hp, Option.bind_some, gck (by omega) (by decide), nI_clamp (by omega), if_pos (M.h hp).symm, nI_1]
  unfold b_L_areHeights_7
  rw [M.P, if_neg (nI_ge hp (by omega)), e, Option.bind_some, M.lp]
  simp (disch := omega) only [gck, nI_clamp]
  rw [if_pos (hz p hp).symm, q_heightOf Co1 H1.1 hp, Option.bind_some, H1.2.1]
  rcases H1.1 with c | c
  · rw [if_pos c, h57 _ _ (show adh (gi μ' 20 2) (μ'.2 22) p = noH by unfold adh; rw [if_neg (by rw [c]; decide)])]
  · rw [if_neg (by rw [c]; decide), gckb (by rw [c]; decide), h57 _ _ (H1.a hp c)]
theorem l_hb88 (Co : CO v μ) (M : LM v ν) (H : HA v ν μ) {k : Nat} (hk : k < nN v) : b_L_areHeights_88 (nI k) ν μ = some (.inl (nI (k + 1))) := by
  have C := Co.1
  have hb := M.b
  have hg := C.g k hk
  have no : ¬ hsR v (gi μ 20 2) (μ.2 22) k → j_L_areHeights_156 (nI k) ν μ = some (.inl (nI (k + 1))) := fun h => by
    unfold j_L_areHeights_156 j_L_areHeights_157 j_L_areHeights_210
    rw [q_residual Co H.1 hk, Option.bind_some, if_pos rfl, if_pos (show msf v (gi μ 20 2) (μ.2 22) k = noH from if_neg h), nI_1]
  unfold b_L_areHeights_88
  rw [M.N, if_neg (nI_ge hk (by omega)), H.2.1, M.ll]
  rcases H.1 with c | c
  · rw [if_pos c]
    exact no (fun h => h.2.1 (by unfold adh; rw [if_neg (by rw [c]; decide)]))
  · have a1 := H.a hg.1 c
    have a2 := H.a hg.2 c
    have n1 : ¬ gi μ 20 2 = 0 := by rw [c]; decide
    rw [if_neg n1]
    simp (disch := omega) only [gck, nI_clamp]
    rw [M.f C hk, M.s C hk, M.lp]
    simp (disch := omega) only [gck, nI_clamp]
    by_cases a : (nA v).testBit k = true
    · rw [if_neg (fun q => (M.a0 hk).mp q a), gckb n1]
      by_cases b1 : gl ν 9 (fs v k) = noH
      · rw [if_pos (show gl ν 9 (fs v k) = (-9223372036854775808 : Int64) from b1)]
        exact no (fun h => h.2.1 (by rw [a1]; exact b1))
      · rw [if_neg (show ¬ gl ν 9 (fs v k) = (-9223372036854775808 : Int64) from b1), gckb n1]
        by_cases b2 : gl ν 9 (sn v k) = noH
        · rw [if_pos (show gl ν 9 (sn v k) = (-9223372036854775808 : Int64) from b2)]
          exact no (fun h => h.2.2 (by rw [a2]; exact b2))
        · rw [if_neg (show ¬ gl ν 9 (sn v k) = (-9223372036854775808 : Int64) from b2)]
          have h : hsR v (gi μ 20 2) (μ.2 22) k := ⟨a, by rw [a1]; exact b1, by rw [a2]; exact b2⟩
          unfold j_L_areHeights_157 j_L_areHeights_210
          rw [q_residual Co H.1 hk, Option.bind_some, if_neg (show ¬ (1 : Int32) = 0 by decide), H.2.1, M.ll]
          simp (disch := omega) only [gck, nI_clamp]
          rw [M.f C hk, M.s C hk, M.lp]
          simp (disch := omega) only [gck, nI_clamp]
          rw [gckb n1, gckb n1, l_rise C M hk, Option.bind_some, nI_1, if_pos]
          rw [show msf v (gi μ 20 2) (μ.2 22) k = msv v (gi μ 20 2) (μ.2 22) k from if_pos h]
          unfold msv
          rw [a1, a2]
    · rw [if_pos ((M.a0 hk).mpr a)]
      exact no (fun h => a h.1)
theorem l_heights (Co : CO v μ) (M : LM v ν) (H : HA v ν μ) : ∃ μ', f_L_areHeights ν μ = some (true, μ') ∧ Fr μ μ' := by
  have C := Co.1
  have hb := M.b
  obtain ⟨q, e, hq⟩ := l_prov (μ := μ) C M
  have h7 : ∃ r, gloop (fun (t : Int32 × (Nat → Int64) × gM) => b_L_areHeights_7 t.1 t.2.1 ν t.2.2) 9 ((0 : Int32), q, μ) = some r ∧ ∃ μ', r = .inl μ' ∧ Fr μ μ' := by
    refine gloop_relN (fun i t => ∃ μ', t = (nI i, q, μ') ∧ Fr μ μ') _ (nP v) 9 (fun i t hi hR => ?_) (by omega) ⟨μ, rfl, Fr.rf μ⟩
    obtain ⟨μ', rfl, F⟩ := hR
    show (∃ t, b_L_areHeights_7 (nI i) q ν μ' = _ ∧ _) ∨ ∃ r, b_L_areHeights_7 (nI i) q ν μ' = _ ∧ _
    by_cases c : i = nP v
    · right
      refine ⟨.inl μ', ?_, μ', rfl, F⟩
      unfold b_L_areHeights_7
      rw [M.P, if_pos (nI_le (by omega) (by omega))]
    · left
      obtain ⟨μ2, e2, F2⟩ := l_hb7 (Co.fr F) M (H.fr F) hq (show i < nP v by omega)
      exact ⟨_, e2, ⟨μ2, rfl, F.tr F2⟩, by omega⟩
  obtain ⟨r, h7, μ1, rfl, F⟩ := h7
  have Co1 := Co.fr F
  have H1 := H.fr F
  have h88 : gloop (fun t => b_L_areHeights_88 t ν μ1) 12 (0 : Int32) = some (.inl ()) := by
    refine gloop_run (fun i => nI i) (nN v) (fun k hk => l_hb88 Co1 M H1 hk) ?_ 12 (by omega)
    show b_L_areHeights_88 (nI (nN v)) ν μ1 = _
    unfold b_L_areHeights_88
    rw [M.N, if_pos (nI_le (Nat.le_refl _) (by omega))]
  refine ⟨μ1, ?_, F⟩
  unfold f_L_areHeights
  rw [e, Option.bind_some, show gloop (fun (t : Int32 × (Nat → Int64) × gM) => b_L_areHeights_7 t.1 t.2.1 ν t.2.2) 9 ((0 : Int32), q, μ) = _ from h7, Option.bind_some]
  show Option.bind (gloop (fun t => b_L_areHeights_88 t ν μ1) 12 (0 : Int32)) _ = _
  rw [h88, Option.bind_some]
  show Option.bind (f_X7_isAdjusted μ1) _ = _
  unfold f_X7_isAdjusted
  rw [H1.2.1]
  rcases H1.1 with c | c
  · rw [c]
    rfl
  · rw [c]
    rfl
end HEI

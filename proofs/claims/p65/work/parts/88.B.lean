/-! changes: what the class does, and what is left in order -/
section CHG
variable {v : Nat → Nat → Int32} {ν μ : gM}
def HI (μ : gM) : Prop := ∃ n o, n ≤ 8 ∧ o < 8 ∧ gi μ 28 0 = nI n ∧ gi μ 28 1 = nI o
theorem HI.of {μ' : gM} (H : HI μ) (h : ∀ i, μ'.1 28 i = μ.1 28 i) : HI μ' := by
  obtain ⟨n, o, h1, h2, h3, h4⟩ := H
  exact ⟨n, o, h1, h2, (h 0).trans h3, (h 1).trans h4⟩
theorem HI.fr {μ' : gM} (H : HI μ) (F : Fr μ μ') : HI μ' := H.of (fun i => F.1 28 i rfl)
/-- after a change: not adjusted -/
def PS (v : Nat → Nat → Int32) (μ : gM) : Prop := CO v μ ∧ gi μ 20 2 = 0 ∧ HI μ
theorem PS.fr {μ' : gM} (H : PS v μ) (F : Fr μ μ') : PS v μ' := ⟨H.1.fr F, (F.1 20 2 rfl).trans H.2.1, H.2.2.fr F⟩
theorem q_keep (Co : CO v μ) (hz : gi μ 20 2 = 0 ∨ gi μ 20 2 = 1) (H : HI μ) (K I B : Int32) : ∃ μ1, f_X7_keepBefore K I B μ = some μ1 ∧ PS v μ1 ∧ ∀ k i, 33 ≤ k → μ1.1 k i = μ.1 k i := by
  obtain ⟨n, o, h1, h2, h3, h4⟩ := H
  obtain ⟨μ1, e, kp, z, f1, f2⟩ := c_keep h3 h4 h1 h2 hz K I B
  have := kM_le h1
  exact ⟨μ1, e, ⟨⟨Co.1, (nv_keep f1).trans Co.2⟩, z, kM n + 1, kO n o, by omega, kO_lt h2, kp.1, kp.2.1⟩, fun k i hk => f1 k i (by omega) (by omega)⟩
theorem PS.si {j i : Nat} {x : Int32} (H : PS v μ) (hj : j < 13) (C : CI (vset v j i x)) : PS (vset v j i x) (si μ (34 + j) i x) := by
  refine ⟨⟨C, (nv_si hj).trans (by rw [H.1.2])⟩, ?_, ?_⟩
  · rw [gi_sik (by omega)]; exact H.2.1
  · exact H.2.2.of (fun b => if_neg (fun w => by omega))
theorem inRl {lo hi : Int} {x l h : Int32} (H : inR lo hi x) (hl : l.toInt = lo) (hh : h.toInt = hi) : ¬ x < l ∧ x ≤ h := by
  obtain ⟨a, b⟩ := H
  exact ⟨fun w => by rw [Int32.lt_iff_toInt_lt] at w; omega, by rw [Int32.le_iff_toInt_le]; omega⟩
theorem q_fits {w : Nat} (hw : w < 4) {x : Int32} (h : gdN w x) : f_X7_fits (nI w) x μ = some true := by
  have key : ∀ lo hi : Int32, sc 0 w = lo → sc 1 w = hi → inR lo.toInt hi.toInt x → f_X7_fits (nI w) x μ = some true := by
    intro lo hi e1 e2 e3
    obtain ⟨a, b⟩ := inRl e3 rfl rfl
    unfold f_X7_fits
    simp (disch := omega) only [gck, nI_clamp]
    rw [e1, e2, if_neg a, if_neg (fun w => by rw [Int32.lt_iff_toInt_lt] at w; rw [Int32.le_iff_toInt_le] at b; omega)]
  have h4 : w = 0 ∨ w = 1 ∨ w = 2 ∨ w = 3 := by omega
  rcases h4 with e | e | e | e <;> subst e
  · exact key 0 40000 (by decide) (by decide) h
  · exact key 0 40000 (by decide) (by decide) h
  · exact key 1 100 (by decide) (by decide) h
  · exact key 1 100 (by decide) (by decide) h
theorem q_hold (Co : CO v μ) (hz : gi μ 20 2 = 0 ∨ gi μ 20 2 = 1) (H : HI μ) {p : Nat} (hp : p < nP v) {x : Int32} (hx : inR 0 9999999 x) : ∃ μ', f_X7_hold (nI p) x μ = some (nI (hcN (vset v 5 p x) (nP v)), μ') ∧ PS (vset v 5 p x) μ' := by
  have hb := Co.1.b
  obtain ⟨μ1, e, P, -⟩ := q_keep Co hz H 0 (nI p) (v 5 p)
  have C' : CI (vset v 5 p x) := CI_v5 Co.1 (Or.inr hx)
  have P2 := P.si (j := 5) (i := p) (by decide) C'
  obtain ⟨a, b⟩ := inRl (l := 0) (h := 9999999) hx (by decide) (by decide)
  refine ⟨_, ?_, P2⟩
  unfold f_X7_hold
  rw [Co.P, ixG (by omega) hp, Option.bind_some, if_neg (by decide), if_neg a, if_pos b]
  simp (disch := omega) only [gck, nI_clamp]
  rw [show gi μ 39 p = v 5 p from Co.at 5 p (by decide), e, Option.bind_some, show f_X3_countHeld (si μ1 39 p x) = some (nI (hcN (vset v 5 p x) (nP v))) from c_cntH P2.1, Option.bind_some]
theorem q_release (Co : CO v μ) (hz : gi μ 20 2 = 0 ∨ gi μ 20 2 = 1) (H : HI μ) {p : Nat} (hp : p < nP v) : (v 5 p = -1 ∧ f_X7_release (nI p) μ = some (-1, μ)) ∨ (v 5 p ≠ -1 ∧ ∃ μ', f_X7_release (nI p) μ = some (nI (hcN (vset v 5 p (-1)) (nP v)), μ') ∧ PS (vset v 5 p (-1)) μ') := by
  have hb := Co.1.b
  unfold f_X7_release
  rw [Co.P, ixG (by omega) hp, Option.bind_some, if_neg (by decide)]
  simp (disch := omega) only [gck, nI_clamp]
  rw [show gi μ 39 p = v 5 p from Co.at 5 p (by decide)]
  by_cases c : v 5 p = -1
  · left
    exact ⟨c, if_pos c⟩
  · right
    obtain ⟨μ1, e, P, -⟩ := q_keep Co hz H 0 (nI p) (v 5 p)
    have C' : CI (vset v 5 p (-1)) := CI_v5 Co.1 (Or.inl rfl)
    have P2 := P.si (j := 5) (i := p) (by decide) C'
    refine ⟨c, _, ?_, P2⟩
    rw [if_neg c, e, Option.bind_some, show f_X3_countHeld (si μ1 39 p (-1)) = some (nI (hcN (vset v 5 p (-1)) (nP v))) from c_cntH P2.1, Option.bind_some]
theorem q_setReading (Co : CO v μ) (hz : gi μ 20 2 = 0 ∨ gi μ 20 2 = 1) (H : HI μ) {k s w : Nat} (hk : k < nN v) (hs : s < ct v k) (hw : w < 4) {x : Int32} (hx : gdN w x) : ∃ μ', f_X7_setReading (nI k) (nI s) (nI w) x μ = some (v 10 (32 * k + 4 * s + w), μ') ∧ PS (vset v 10 (32 * k + 4 * s + w) x) μ' := by
  have hb := Co.1.b
  have hc := (Co.1.line hk).cnt
  obtain ⟨μ1, e, P, -⟩ := q_keep Co hz H 1 (nI (32 * k + 4 * s + w)) (v 10 (32 * k + 4 * s + w))
  have C' : CI (vset v 10 (32 * k + 4 * s + w) x) := CI_v10 Co.1 hk hw hx
  have P2 := P.si (j := 10) (i := 32 * k + 4 * s + w) (by decide) C'
  refine ⟨_, ?_, P2⟩
  have ep : ((nI k * (8 : Int32)) + nI s) * (4 : Int32) + nI w = nI (32 * k + 4 * s + w) := by
    rw [show (8 : Int32) = nI 8 from rfl, show (4 : Int32) = nI 4 from rfl, pk_mul, nI_add, pk_mul, nI_add]
    congr 1; omega
  unfold f_X7_setReading
  rw [Co.N, ixG (by omega) hk, Option.bind_some, if_neg (by decide), q_has Co hk hs, Option.bind_some, if_neg (by decide), show (4 : Int32) = nI 4 from rfl, ixG (by decide) hw, Option.bind_some, if_neg (by decide), q_fits hw hx, Option.bind_some, if_neg (by decide)]
  unfold f_X3_place
  rw [Option.bind_some, ep]
  simp (disch := omega) only [gck, nI_clamp]
  rw [show gi μ 44 (32 * k + 4 * s + w) = v 10 (32 * k + 4 * s + w) from Co.at 10 _ (by decide), e, Option.bind_some]
theorem q_addFull (Co : CO v μ) {k : Nat} (hk : k < nN v) (h8 : ct v k = 8) {x0 x1 x2 x3 : Int32} (h0 : gdN 0 x0) (h1 : gdN 1 x1) (h2 : gdN 2 x2) (h3 : gdN 3 x3) : f_X7_addSetup (nI k) x0 x1 x2 x3 μ = some (-3, μ) := by
  have hb := Co.1.b
  unfold f_X7_addSetup
  rw [Co.N, ixG (by omega) hk, Option.bind_some, if_neg (by decide), show f_X7_fits 0 x0 μ = some true from q_fits (w := 0) (by decide) h0, Option.bind_some, if_neg (by decide), show f_X7_fits 1 x1 μ = some true from q_fits (w := 1) (by decide) h1, Option.bind_some, if_neg (by decide), show f_X7_fits 2 x2 μ = some true from q_fits (w := 2) (by decide) h2, Option.bind_some, if_neg (by decide), show f_X7_fits 3 x3 μ = some true from q_fits (w := 3) (by decide) h3, Option.bind_some, if_neg (by decide)]
  simp (disch := omega) only [gck, nI_clamp]
  rw [c_ct Co hk, h8, if_neg (by decide)]
theorem q_add (Co : CO v μ) (hz : gi μ 20 2 = 0 ∨ gi μ 20 2 = 1) (H : HI μ) {k : Nat} (hk : k < nN v) (h8 : ct v k < 8) {x0 x1 x2 x3 : Int32} (h0 : gdN 0 x0) (h1 : gdN 1 x1) (h2 : gdN 2 x2) (h3 : gdN 3 x3) : ∃ μ', f_X7_addSetup (nI k) x0 x1 x2 x3 μ = some (nI (ct v k + 1), μ') ∧ PS (vadd v k (ct v k) (xs4 x0 x1 x2 x3)) μ' := by
  have hb := Co.1.b
  obtain ⟨μ1, e, P, f⟩ := q_keep Co hz H 2 (nI k) (nI (ct v k))
  have C' : CI (vadd v k (ct v k) (xs4 x0 x1 x2 x3)) := CI_add Co.1 hk rfl h8 (fun w hw => by
    have h4 : w = 0 ∨ w = 1 ∨ w = 2 ∨ w = 3 := by omega
    rcases h4 with q | q | q | q <;> subst q
    · exact h0
    · exact h1
    · exact h2
    · exact h3)
  have ep : ((nI k * (8 : Int32)) + nI (ct v k)) * (4 : Int32) = nI (32 * k + 4 * ct v k) := by
    rw [show (8 : Int32) = nI 8 from rfl, show (4 : Int32) = nI 4 from rfl, pk_mul, nI_add, pk_mul]
    congr 1; omega
  obtain ⟨μ2, hμ2⟩ : ∃ μ2, μ2 = si (si (si (si (si μ1 44 (32 * k + 4 * ct v k) x0) 44 (32 * k + 4 * ct v k + 1) x1) 44 (32 * k + 4 * ct v k + 2) x2) 44 (32 * k + 4 * ct v k + 3) x3) 43 k (nI (ct v k + 1)) := ⟨_, rfl⟩
  have P2 : PS (vadd v k (ct v k) (xs4 x0 x1 x2 x3)) μ2 := by
    refine ⟨⟨C', ?_⟩, ?_, ?_⟩
    · rw [hμ2, show (43 : Nat) = 34 + 9 from rfl, nv_si (by decide), show (44 : Nat) = 34 + 10 from rfl, nv_si (by decide), nv_si (by decide), nv_si (by decide), nv_si (by decide), P.1.2]
      exact vadd_si
    · rw [hμ2, gi_sik (by decide), gi_sik (by decide), gi_sik (by decide), gi_sik (by decide), gi_sik (by decide)]
      exact P.2.1
    · refine P.2.2.of (fun i => ?_)
      show gi μ2 28 i = gi μ1 28 i
      rw [hμ2, gi_sik (by decide), gi_sik (by decide), gi_sik (by decide), gi_sik (by decide), gi_sik (by decide)]
  refine ⟨μ2, ?_, P2⟩
  unfold f_X7_addSetup
  rw [Co.N, ixG (by omega) hk, Option.bind_some, if_neg (by decide), show f_X7_fits 0 x0 μ = some true from q_fits (w := 0) (by decide) h0, Option.bind_some, if_neg (by decide), show f_X7_fits 1 x1 μ = some true from q_fits (w := 1) (by decide) h1, Option.bind_some, if_neg (by decide), show f_X7_fits 2 x2 μ = some true from q_fits (w := 2) (by decide) h2, Option.bind_some, if_neg (by decide), show f_X7_fits 3 x3 μ = some true from q_fits (w := 3) (by decide) h3, Option.bind_some, if_neg (by decide)]
  simp (disch := omega) only [gck, nI_clamp]
  rw [c_ct Co hk, if_pos (show nI (ct v k) < (8 : Int32) from nI_lt (b := 8) h8 (by decide)), e, Option.bind_some]
  unfold f_X3_place
  rw [Option.bind_some, ep, show nI (32 * k + 4 * ct v k) + (0 : Int32) = nI (32 * k + 4 * ct v k) from Int32.add_zero _, show (1 : Int32) = nI 1 from rfl, show (2 : Int32) = nI 2 from rfl, show (3 : Int32) = nI 3 from rfl, nI_add, nI_add, nI_add, nI_add]
  simp (disch := omega) only [gck, nI_clamp]
  rw [hμ2]
theorem q_setActive (Co : CO v μ) (hz : gi μ 20 2 = 0 ∨ gi μ 20 2 = 1) (H : HI μ) {k : Nat} (hk : k < nN v) (y : Int32) : ∃ A μ', A < 2 ^ nN v ∧ (∀ i, i < 32 → A.testBit i = if i = k then !decide (y = 0) else (nA v).testBit i) ∧ f_X7_setActive (nI k) y μ = some (nI (nlp (vset v 0 4 (nI A)) (nA (vset v 0 4 (nI A)))), μ') ∧ PS (vset v 0 4 (nI A)) μ' := by
  have hb := Co.1.b
  have C := Co.1
  obtain ⟨μ1, e, P, -⟩ := q_keep Co hz H 3 (nI k) (nI (nA v))
  have hout : ∀ i, i < 32 → nN v ≤ i → bt (sact (nA v) k y) i = false := fun i hi hn => by
    rw [sact_b C.A31 (by omega) y hi, if_neg (by omega), tb_out C.b.2.2.2.2 hn]
  obtain ⟨A, hA1, hA2, hA3⟩ := setN (by omega) hout
  have C' : CI (vset v 0 4 (nI A)) := CI_v0 C hA2
  have P2 := P.si (j := 0) (i := 4) (by decide) C'
  obtain ⟨μ2, e2, F2⟩ := c_cntL P2.1
  refine ⟨A, μ2, hA2, fun i hi => by rw [hA3 i hi, sact_b C.A31 (by omega) y hi], ?_, P2.fr F2⟩
  unfold f_X7_setActive
  rw [Co.N, ixG (by omega) hk, Option.bind_some, if_neg (by decide), Co.A, e, Option.bind_some, P.1.A]
  unfold sact at hA1
  by_cases c : y = 0
  · rw [if_pos c] at hA1
    rw [if_pos c, hA1, e2, Option.bind_some]
  · rw [if_neg c] at hA1
    rw [if_neg c, hA1, e2, Option.bind_some]
theorem q_setColl (Co : CO v μ) (hz : gi μ 20 2 = 0 ∨ gi μ 20 2 = 1) (H : HI μ) {l : Nat} (hl : l < nL v) {x : Int32} (hx : inR (-200) 200 x) : ∃ μ', f_X7_setCollimation (nI l) x μ = some (v 3 l, μ') ∧ PS (vset v 3 l x) μ' := by
  have hb := Co.1.b
  obtain ⟨μ1, e, P, -⟩ := q_keep Co hz H 4 (nI l) (v 3 l)
  have C' : CI (vset v 3 l x) := CI_v3 Co.1 hx
  have P2 := P.si (j := 3) (i := l) (by decide) C'
  obtain ⟨a, b⟩ := inRl (l := -200) (h := 200) hx (by decide) (by decide)
  refine ⟨_, ?_, P2⟩
  have eL : gi μ 34 0 = nI (nL v) := (Co.at 0 0 (by decide)).trans Co.1.1.1
  unfold f_X7_setCollimation f_X7_changeCollimation
  rw [eL, ixG (by omega) hl, Option.bind_some, if_neg (by decide), if_neg a, if_pos b]
  simp (disch := omega) only [gck, nI_clamp]
  rw [show gi μ 37 l = v 3 l from Co.at 3 l (by decide), e, Option.bind_some, Option.bind_some]
theorem q_adjust (Co : CO v μ) (hz : gi μ 20 2 = 0 ∨ gi μ 20 2 = 1) (H : HI μ) {r : Nat} (h1 : 1 ≤ r) (h2 : r ≤ 30) : ∃ μ', f_X7_adjust (nI r) μ = some (nI (rrn v r 0 true (pv v)).1, μ') ∧ CO v μ' ∧ HI μ' ∧ gi μ' 20 2 = 1 ∧ ∀ p, p < nP v → gl μ' 22 p = (rrn v r 0 true (pv v)).2 p := by
  obtain ⟨μ1, e, P, -⟩ := q_keep Co hz H 6 0 0
  obtain ⟨μ2, e2, z, f1, f2, g, -⟩ := c_settle P.1 (r := r) (by omega)
  refine ⟨μ2, ?_, ⟨Co.1, (nv_cg (fun k i h3 h4 => f1 k i ?_ (by omega))).trans P.1.2⟩, P.2.2.of (fun i => f1 28 i rfl (by decide)), z, g⟩
  · unfold f_X7_adjust
    rw [if_neg (show ¬ nI r < (1 : Int32) from nI_nlt (b := 1) h1 (by omega)), if_pos (show nI r ≤ (200 : Int32) from nI_le (b := 200) (by omega) (by decide)), e, Option.bind_some, e2, Option.bind_some]
  · have : k = 34 ∨ k = 35 ∨ k = 36 ∨ k = 37 ∨ k = 38 ∨ k = 39 ∨ k = 40 ∨ k = 41 ∨ k = 42 ∨ k = 43 ∨ k = 44 ∨ k = 45 ∨ k = 46 := by omega
    rcases this with h | h | h | h | h | h | h | h | h | h | h | h | h <;> subst h <;> rfl
end CHG

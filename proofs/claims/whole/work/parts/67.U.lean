/-! a setup more; undo -/
def vadd (v : Nat → Nat → Int32) (a c : Nat) (x : Nat → Int32) : Nat → Nat → Int32 := fun j i => if j = 9 ∧ i = a then nI (c + 1) else if j = 10 ∧ 32 * a + 4 * c ≤ i ∧ i < 32 * a + 4 * c + 4 then x (i - (32 * a + 4 * c)) else v j i
section AD
variable {v : Nat → Nat → Int32} {a c : Nat} {x : Nat → Int32}
theorem va_o {j i : Nat} (h9 : j ≠ 9) (h10 : j ≠ 10) : vadd v a c x j i = v j i := by
  unfold vadd
  rw [if_neg (fun w => h9 w.1), if_neg (fun w => h10 w.1)]
theorem va_9 : vadd v a c x 9 a = nI (c + 1) := if_pos ⟨rfl, rfl⟩
theorem va_9n {q : Nat} (h : q ≠ a) : vadd v a c x 9 q = v 9 q := by
  unfold vadd
  rw [if_neg (fun w => h w.2), if_neg (fun w => absurd w.1 (by decide))]
theorem va_in {w : Nat} (h : w < 4) : vadd v a c x 10 (32 * a + 4 * c + w) = x w := by
  unfold vadd
  rw [if_neg (fun w => absurd w.1 (by decide)), if_pos ⟨rfl, by omega, by omega⟩, show 32 * a + 4 * c + w - (32 * a + 4 * c) = w by omega]
theorem va_out {i : Nat} (h : i < 32 * a + 4 * c ∨ 32 * a + 4 * c + 4 ≤ i) : vadd v a c x 10 i = v 10 i := by
  unfold vadd
  rw [if_neg (fun w => absurd w.1 (by decide)), if_neg (fun w => by omega)]
theorem va_ct (hc : c < 8) : ct (vadd v a c x) a = c + 1 := by
  unfold ct
  rw [va_9, nI_clamp (by omega)]
theorem va_ctn {q : Nat} (h : q ≠ a) : ct (vadd v a c x) q = ct v q := by
  unfold ct
  rw [va_9n h]
theorem CI_add (C : CI v) (ha : a < nN v) (hc : ct v a = c) (h8 : c < 8) (hx : ∀ w, w < 4 → gdN w (x w)) : CI (vadd v a c x) := by
  have z : ∀ b, vadd v a c x 0 b = v 0 b := fun b => va_o (by decide) (by decide)
  refine CI_of C (fun i _ => z i) ?_ ?_ (fun l hl => ?_) (fun p hp => ?_) (fun k hk => ?_) (fun t ht => ?_)
  · have e : nA (vadd v a c x) = nA v := congrArg Int32.toNatClampNeg (z 4)
    rw [e, z]; exact C.ac
  · rw [va_o (by decide) (by decide), va_o (by decide) (by decide), va_o (by decide) (by decide)]; exact C.2.2.1
  · rw [va_o (by decide) (by decide)]; exact C.2.2.2.1 l hl
  · rw [va_o (by decide) (by decide)]; exact C.2.2.2.2.1 p hp
  · have H := C.line hk
    have cn := H.cnt
    by_cases e : k = a
    · subst e
      refine LI_gd H z (va_o (by decide) (by decide)) (va_o (by decide) (by decide)) (va_o (by decide) (by decide)) ?_ ?_ (fun s hs w hw => ?_)
      · rw [va_ct h8, va_9]
      · rw [va_ct h8]; omega
      · rw [va_ct h8] at hs
        by_cases e2 : s = c
        · subst e2; rw [va_in hw]; exact hx w hw
        · rw [va_out (by omega)]; exact gdN_LI H (by omega) hw
    · refine LI_gd H z (va_o (by decide) (by decide)) (va_o (by decide) (by decide)) (va_o (by decide) (by decide)) ?_ ?_ (fun s hs w hw => ?_)
      · rw [va_ctn e, va_9n e]; exact cn.1
      · rw [va_ctn e]; omega
      · rw [va_ctn e] at hs
        rw [va_out (by omega)]; exact gdN_LI H hs hw
  · exact TI_cg (congrArg Int32.toNatClampNeg (z 0)) (va_o (by decide) (by decide)) (fun i => va_o (by decide) (by decide)) (C.2.2.2.2.2.2 t ht)
theorem DM_add (C : CI v) (ha : a < nN v) (hc : ct v a = c) (h8 : c < 8) {d d2 : Nat → Int32} (D : DM v d) (e : ∀ q, q < 702 → d2 q = if q = 42 + a then nI (c + 1) else if 62 + (32 * a + 4 * c) ≤ q ∧ q < 62 + (32 * a + 4 * c) + 4 then x (q - (62 + (32 * a + 4 * c))) else d q) : DM (vadd v a c x) d2 := by
  have hb := C.b
  have z : ∀ b, vadd v a c x 0 b = v 0 b := fun b => va_o (by decide) (by decide)
  have L : nL (vadd v a c x) = nL v := congrArg Int32.toNatClampNeg (z 0)
  have P : nP (vadd v a c x) = nP v := congrArg Int32.toNatClampNeg (z 1)
  have N : nN (vadd v a c x) = nN v := congrArg Int32.toNatClampNeg (z 2)
  have A : nA (vadd v a c x) = nA v := congrArg Int32.toNatClampNeg (z 4)
  obtain ⟨q1, q2, q3, q4, q5, q6, q7⟩ := D
  unfold DM
  rw [L, P, N, A]
  refine ⟨fun p hp => ?_, fun p hp => ?_, fun p hp => ?_, fun p hp hp2 => ?_, fun p hp => ?_, fun p hp => ?_, fun k hk s hs w hw => ?_⟩
  · rw [e p (by omega), if_neg (by omega), if_neg (by omega), va_o (by decide) (by decide)]; exact q1 p hp
  · rw [e _ (by omega), if_neg (by omega), if_neg (by omega), va_o (by decide) (by decide)]; exact q2 p hp
  · rw [e _ (by omega), if_neg (by omega), if_neg (by omega), va_o (by decide) (by decide)]; exact q3 p hp
  · rw [e _ (by omega), if_neg (by omega), if_neg (by omega)]; exact q4 p hp hp2
  · rw [e _ (by omega), if_neg (by omega), if_neg (by omega)]; exact q5 p hp
  · rw [e _ (by omega)]
    by_cases g : p = a
    · rw [if_pos (by omega), g, va_9]
    · rw [if_neg (by omega), if_neg (by omega), va_9n g]; exact q6 p hp
  · have hcn := (C.line hk).cnt
    by_cases g : k = a
    · subst g
      rw [va_ct h8] at hs
      by_cases e2 : s = c
      · subst e2
        rw [e _ (by omega), if_neg (by omega), if_pos (by omega), va_in hw, show 62 + (32 * k + 4 * s + w) - (62 + (32 * k + 4 * s)) = w by omega]
      · rw [e _ (by omega), if_neg (by omega), if_neg (by omega), va_out (by omega)]; exact q7 k hk s (by omega) w hw
    · rw [va_ctn g] at hs
      rw [e _ (by omega), if_neg (by omega), if_neg (by omega), va_out (by omega)]; exact q7 k hk s hs w hw
theorem eqN_add (C : CI v) (hc : ct v a = c) (h9 : v 9 a = nI c) (h8 : c < 8) : eqN v (vset (vadd v a c x) 9 a (nI c)) := by
  have o : ∀ j i, j ≠ 9 → j ≠ 10 → v j i = vset (vadd v a c x) 9 a (nI c) j i := fun j i h9 h10 => ((vs_j h9).trans (va_o h9 h10)).symm
  have n9 : ∀ k, v 9 k = vset (vadd v a c x) 9 a (nI c) 9 k := fun k => by
    by_cases e : k = a
    · rw [e, vs_s, h9]
    · rw [vs_i e, va_9n e]
  refine ⟨o 0 0 (by decide) (by decide), o 0 1 (by decide) (by decide), o 0 2 (by decide) (by decide), o 0 3 (by decide) (by decide), o 0 4 (by decide) (by decide), fun i _ => o 1 i (by decide) (by decide), fun l _ => ⟨o 2 l (by decide) (by decide), o 3 l (by decide) (by decide)⟩, fun p _ => ⟨o 4 p (by decide) (by decide), o 5 p (by decide) (by decide)⟩, fun k hk => ⟨o 6 k (by decide) (by decide), o 7 k (by decide) (by decide), o 8 k (by decide) (by decide), n9 k, fun s hs w hw => ?_⟩, fun t _ => ⟨o 11 t (by decide) (by decide), fun i _ => o 12 _ (by decide) (by decide)⟩⟩
  have e : ct (vset (vadd v a c x) 9 a (nI c)) k = ct v k := congrArg Int32.toNatClampNeg (n9 k).symm
  rw [e] at hs
  have hk2 : k < nN v := by
    have : nN (vset (vadd v a c x) 9 a (nI c)) = nN v := congrArg Int32.toNatClampNeg (o 0 2 (by decide) (by decide)).symm
    rw [this] at hk; exact hk
  have hcn := (C.line hk2).cnt
  rw [vs_j (by decide), va_out]
  by_cases g : k = a
  · subst g; omega
  · omega
end AD
def xs4 (x0 x1 x2 x3 : Int32) : Nat → Int32
  | 0 => x0
  | 1 => x1
  | 2 => x2
  | _ => x3
section GB
variable {μ : gM}
theorem vadd_si {v : Nat → Nat → Int32} {a c : Nat} {x0 x1 x2 x3 : Int32} : vset (vset (vset (vset (vset v 10 (32 * a + 4 * c) x0) 10 (32 * a + 4 * c + 1) x1) 10 (32 * a + 4 * c + 2) x2) 10 (32 * a + 4 * c + 3) x3) 9 a (nI (c + 1)) = vadd v a c (xs4 x0 x1 x2 x3) := by
  funext j i
  by_cases c9 : j = 9 ∧ i = a
  · rw [c9.1, c9.2, vs_s, va_9]
  · rw [show vset _ 9 a (nI (c + 1)) j i = _ from if_neg c9]
    unfold vadd
    rw [if_neg c9]
    by_cases g : j = 10 ∧ 32 * a + 4 * c ≤ i ∧ i < 32 * a + 4 * c + 4
    · rw [if_pos g, g.1]
      have h4 : i = 32 * a + 4 * c ∨ i = 32 * a + 4 * c + 1 ∨ i = 32 * a + 4 * c + 2 ∨ i = 32 * a + 4 * c + 3 := by omega
      rcases h4 with h | h | h | h <;> subst h
      · rw [vs_i (by omega), vs_i (by omega), vs_i (by omega), vs_s, Nat.sub_self]; rfl
      · rw [vs_i (by omega), vs_i (by omega), vs_s, show 32 * a + 4 * c + 1 - (32 * a + 4 * c) = 1 by omega]; rfl
      · rw [vs_i (by omega), vs_s, show 32 * a + 4 * c + 2 - (32 * a + 4 * c) = 2 by omega]; rfl
      · rw [vs_s, show 32 * a + 4 * c + 3 - (32 * a + 4 * c) = 3 by omega]; rfl
    · rw [if_neg g]
      unfold vset
      rw [if_neg (by omega), if_neg (by omega), if_neg (by omega), if_neg (by omega)]
theorem sim_55 (s1 s2 s3 s4 s5 : Int32) (R : Rel μ) : simOK μ (f_case_55 s1 s2 s3 s4 s5 μ) := by
  have hb := R.1.b
  have M1 := R.mo.si6 0
  have C := R.co
  have bad : ∀ w : Int32, f_X7_addSetup s1 s2 s3 s4 s5 μ = some (w, μ) → f_X8_addSetup s1 s2 s3 s4 s5 μ = some (w, si μ 60 6 0) → simOK μ (f_case_55 s1 s2 s3 s4 s5 μ) := fun w h1 h2 => caseW (fC := f_X7_addSetup s1 s2 s3 s4 s5 μ) (fM := f_X8_addSetup s1 s2 s3 s4 s5) h1 h2 (R.fr (si60 0))
  rcases ix3 s1 (n := nN (nv 34 μ)) (by omega) with h | ⟨a, ha, rfl⟩
  · refine bad (-1) ?_ ?_
    · unfold f_X7_addSetup; rw [C.N, ixB (by omega) h]; rfl
    · unfold f_X8_addSetup; rw [m_lineB M1 h]; rfl
  by_cases g0 : ¬ gdN 0 s2
  · refine bad (-2) ?_ ?_
    · unfold f_X7_addSetup; rw [C.N, ixG (by omega) ha, Option.bind_some]; simp only [bT, if_false]; rw [show f_X7_fits (0 : Int32) s2 μ = some false from c_fitsB (w := 0) (by decide) g0]; rfl
    · unfold f_X8_addSetup; rw [m_lineG M1 ha, Option.bind_some]; simp only [bT, if_false]; rw [show f_X8_isNumber (0 : Int32) s2 (si μ 60 6 0) = some false from m_numB (w := 0) (by decide) g0]; rfl
  replace g0 := Classical.not_not.mp g0
  have p0 : ∀ ν, f_X8_isNumber (0 : Int32) s2 ν = some true := fun ν => m_numG (w := 0) (by decide) g0
  by_cases g1 : ¬ gdN 1 s3
  · refine bad (-2) ?_ ?_
    · unfold f_X7_addSetup; rw [C.N, ixG (by omega) ha, Option.bind_some]; simp only [bT, if_false]; rw [show f_X7_fits (0 : Int32) s2 μ = some true from c_fitsG (w := 0) (by decide) g0, Option.bind_some]; simp only [bT, if_false]; rw [show f_X7_fits (1 : Int32) s3 μ = some false from c_fitsB (w := 1) (by decide) g1]; rfl
    · unfold f_X8_addSetup; rw [m_lineG M1 ha, Option.bind_some]; simp only [bT, if_false]; rw [p0, Option.bind_some]; simp only [bT, if_false]; rw [show f_X8_isNumber (1 : Int32) s3 (si μ 60 6 0) = some false from m_numB (w := 1) (by decide) g1]; rfl
  replace g1 := Classical.not_not.mp g1
  have p1 : ∀ ν, f_X8_isNumber (1 : Int32) s3 ν = some true := fun ν => m_numG (w := 1) (by decide) g1
  by_cases g2 : ¬ gdN 2 s4
  · refine bad (-2) ?_ ?_
    · unfold f_X7_addSetup; rw [C.N, ixG (by omega) ha, Option.bind_some]; simp only [bT, if_false]; rw [show f_X7_fits (0 : Int32) s2 μ = some true from c_fitsG (w := 0) (by decide) g0, Option.bind_some]; simp only [bT, if_false]; rw [show f_X7_fits (1 : Int32) s3 μ = some true from c_fitsG (w := 1) (by decide) g1, Option.bind_some]; simp only [bT, if_false]; rw [show f_X7_fits (2 : Int32) s4 μ = some false from c_fitsB (w := 2) (by decide) g2]; rfl
    · unfold f_X8_addSetup; rw [m_lineG M1 ha, Option.bind_some]; simp only [bT, if_false]; rw [p0, Option.bind_some]; simp only [bT, if_false]; rw [p1, Option.bind_some]; simp only [bT, if_false]; rw [show f_X8_isNumber (2 : Int32) s4 (si μ 60 6 0) = some false from m_numB (w := 2) (by decide) g2]; rfl
  replace g2 := Classical.not_not.mp g2
  have p2 : ∀ ν, f_X8_isNumber (2 : Int32) s4 ν = some true := fun ν => m_numG (w := 2) (by decide) g2
  by_cases g3 : ¬ gdN 3 s5
  · refine bad (-2) ?_ ?_
    · unfold f_X7_addSetup; rw [C.N, ixG (by omega) ha, Option.bind_some]; simp only [bT, if_false]; rw [show f_X7_fits (0 : Int32) s2 μ = some true from c_fitsG (w := 0) (by decide) g0, Option.bind_some]; simp only [bT, if_false]; rw [show f_X7_fits (1 : Int32) s3 μ = some true from c_fitsG (w := 1) (by decide) g1, Option.bind_some]; simp only [bT, if_false]; rw [show f_X7_fits (2 : Int32) s4 μ = some true from c_fitsG (w := 2) (by decide) g2, Option.bind_some]; simp only [bT, if_false]; rw [show f_X7_fits (3 : Int32) s5 μ = some false from c_fitsB (w := 3) (by decide) g3]; rfl
    · unfold f_X8_addSetup; rw [m_lineG M1 ha, Option.bind_some]; simp only [bT, if_false]; rw [p0, Option.bind_some]; simp only [bT, if_false]; rw [p1, Option.bind_some]; simp only [bT, if_false]; rw [p2, Option.bind_some]; simp only [bT, if_false]; rw [show f_X8_isNumber (3 : Int32) s5 (si μ 60 6 0) = some false from m_numB (w := 3) (by decide) g3]; rfl
  replace g3 := Classical.not_not.mp g3
  have p3 : ∀ ν, f_X8_isNumber (3 : Int32) s5 ν = some true := fun ν => m_numG (w := 3) (by decide) g3
  have hl := C.1.line ha
  have hcn := hl.cnt
  obtain ⟨c, hc⟩ : ∃ c, ct (nv 34 μ) a = c := ⟨_, rfl⟩
  have hcC := c_ct C ha
  rw [hc] at hcC hcn
  by_cases h8 : c = 8
  · refine bad (-3) ?_ ?_
    · unfold f_X7_addSetup; rw [C.N, ixG (by omega) ha, Option.bind_some]; simp only [bT, if_false]; rw [show f_X7_fits (0 : Int32) s2 μ = some true from c_fitsG (w := 0) (by decide) g0, Option.bind_some]; simp only [bT, if_false]; rw [show f_X7_fits (1 : Int32) s3 μ = some true from c_fitsG (w := 1) (by decide) g1, Option.bind_some]; simp only [bT, if_false]; rw [show f_X7_fits (2 : Int32) s4 μ = some true from c_fitsG (w := 2) (by decide) g2, Option.bind_some]; simp only [bT, if_false]; rw [show f_X7_fits (3 : Int32) s5 μ = some true from c_fitsG (w := 3) (by decide) g3, Option.bind_some]; simp only [bT, if_false]
      simp (disch := omega) only [gck, nI_clamp]
      rw [hcC, h8, if_neg (show ¬ nI 8 < (8 : Int32) by decide)]
    · unfold f_X8_addSetup; rw [m_lineG M1 ha, Option.bind_some]; simp only [bT, if_false]; rw [p0, Option.bind_some]; simp only [bT, if_false]; rw [p1, Option.bind_some]; simp only [bT, if_false]; rw [p2, Option.bind_some]; simp only [bT, if_false]; rw [p3, Option.bind_some]; simp only [bT, if_false]
      rw [m_setups M1 ha, Option.bind_some, hc, h8, if_pos (by decide)]
  have hc8 : c < 8 := by omega
  obtain ⟨n, o, h8n, h8o, hn, hm, ho, hR⟩ := R.2.2.2.2.2.2
  obtain ⟨μ1, e1, kp, gz, f1, f2⟩ := c_keep hn ho h8n h8o R.hm.1 (2 : Int32) (nI a) (nI c)
  have hx : ∀ w, w < 4 → gdN w (xs4 s2 s3 s4 s5 w) := fun w hw => by
    have h4 : w = 0 ∨ w = 1 ∨ w = 2 ∨ w = 3 := by omega
    rcases h4 with h | h | h | h <;> subst h
    · exact g0
    · exact g1
    · exact g2
    · exact g3
  have C2 := CI_add R.1 ha hc hc8 hx
  obtain ⟨μ3, hμ3⟩ : ∃ μ3, μ3 = si (si (si (si (si μ1 44 (32 * a + 4 * c) s2) 44 (32 * a + 4 * c + 1) s3) 44 (32 * a + 4 * c + 2) s4) 44 (32 * a + 4 * c + 3) s5) 43 a (nI (c + 1)) := ⟨_, rfl⟩
  have f3 : ∀ k i, rI k i = true → k < 34 ∨ 46 < k → μ3.1 k i = μ1.1 k i := fun k i _ hk => by
    rw [hμ3, si1 (by omega), si1 (by omega), si1 (by omega), si1 (by omega), si1 (by omega)]
  have f4 : ∀ k i, rL k = true → μ3.2 k i = μ1.2 k i := fun k i _ => by rw [hμ3]; rfl
  have hv : nv 34 μ3 = vadd (nv 34 μ) a c (xs4 s2 s3 s4 s5) := by
    rw [hμ3, show nv 34 (si _ 43 a (nI (c + 1))) = _ from nv_si (j := 9) (by decide), show nv 34 (si _ 44 (32 * a + 4 * c + 3) s5) = _ from nv_si (j := 10) (by decide), show nv 34 (si _ 44 (32 * a + 4 * c + 2) s4) = _ from nv_si (j := 10) (by decide), show nv 34 (si _ 44 (32 * a + 4 * c + 1) s3) = _ from nv_si (j := 10) (by decide), show nv 34 (si _ 44 (32 * a + 4 * c) s2) = _ from nv_si (j := 10) (by decide), nv_keep f1, vadd_si]
  have F2 : FM (vadd (nv 34 μ) a c (xs4 s2 s3 s4 s5)) (μ.1 66) := FM_cg (fun i _ => va_o (by decide) (by decide)) (fun j i h => va_o (by omega) (by omega)) R.2.2.1
  have hN2 : nN (vadd (nv 34 μ) a c (xs4 s2 s3 s4 s5)) = nN (nv 34 μ) := congrArg Int32.toNatClampNeg (va_o (by decide) (by decide))
  obtain ⟨ν1, e2, d1, d2, d3, d4⟩ := chg R h8n h8o hm hR kp gz f1 f2 f3 f4 hv (Or.inr (Or.inr (Or.inl ⟨rfl, a, c, by rw [hN2]; exact ha, by rw [va_ct hc8]; omega, rfl, rfl, eqN_add R.1 hc (by rw [hl.cnt.1, hc]) hc8⟩))) C2 F2
  have M := keep_m R f1 f3
  obtain ⟨E, hE⟩ : ∃ E, E = si (si (si (si ν1 61 (62 + (32 * a + 4 * c + 0)) s2) 61 (62 + (32 * a + 4 * c + 1)) s3) 61 (62 + (32 * a + 4 * c + 2)) s4) 61 (62 + (32 * a + 4 * c + 3)) s5 := ⟨_, rfl⟩
  have eE : gi E 61 (42 + a) = nI c := by
    rw [hE, gi_sij (by omega), gi_sij (by omega), gi_sij (by omega), gi_sij (by omega)]
    exact (d1 _).trans ((if_neg (by omega)).trans ((R.2.1.2.2.2.2.2.1 a ha).trans (by rw [hl.cnt.1, hc])))
  have t1 : ∀ q, q < 703 → (si E 61 (42 + a) (nI (c + 1))).1 61 q = if q = 42 + a then nI (c + 1) else if 62 + (32 * a + 4 * c) ≤ q ∧ q < 62 + (32 * a + 4 * c) + 4 then xs4 s2 s3 s4 s5 (q - (62 + (32 * a + 4 * c))) else if q = 702 then 0 else μ.1 61 q := fun q hq => by
    show gi (si E 61 (42 + a) (nI (c + 1))) 61 q = _
    by_cases c0 : q = 42 + a
    · rw [c0, gi_sii, if_pos rfl]
    · rw [gi_sij c0, if_neg c0, hE]
      by_cases g : 62 + (32 * a + 4 * c) ≤ q ∧ q < 62 + (32 * a + 4 * c) + 4
      · rw [if_pos g]
        have h4 : q = 62 + (32 * a + 4 * c + 0) ∨ q = 62 + (32 * a + 4 * c + 1) ∨ q = 62 + (32 * a + 4 * c + 2) ∨ q = 62 + (32 * a + 4 * c + 3) := by omega
        rcases h4 with h | h | h | h <;> subst h
        · rw [gi_sij (by omega), gi_sij (by omega), gi_sij (by omega), gi_sii, show 62 + (32 * a + 4 * c + 0) - (62 + (32 * a + 4 * c)) = 0 by omega]; rfl
        · rw [gi_sij (by omega), gi_sij (by omega), gi_sii, show 62 + (32 * a + 4 * c + 1) - (62 + (32 * a + 4 * c)) = 1 by omega]; rfl
        · rw [gi_sij (by omega), gi_sii, show 62 + (32 * a + 4 * c + 2) - (62 + (32 * a + 4 * c)) = 2 by omega]; rfl
        · rw [gi_sii, show 62 + (32 * a + 4 * c + 3) - (62 + (32 * a + 4 * c)) = 3 by omega]; rfl
      · rw [if_neg g, gi_sij (by omega), gi_sij (by omega), gi_sij (by omega), gi_sij (by omega)]
        exact d1 q
  have D3 : DM (vadd (nv 34 μ) a c (xs4 s2 s3 s4 s5)) ((si E 61 (42 + a) (nI (c + 1))).1 61) := DM_add R.1 ha hc hc8 R.2.1 (fun q hq => by
    rw [t1 q (by omega)]
    by_cases c0 : q = 42 + a
    · rw [if_pos c0, if_pos c0]
    · rw [if_neg c0, if_neg c0]
      by_cases g : 62 + (32 * a + 4 * c) ≤ q ∧ q < 62 + (32 * a + 4 * c) + 4
      · rw [if_pos g, if_pos g]
      · rw [if_neg g, if_neg g, if_neg (by omega)])
  have R3 := d4 (si E 61 (42 + a) (nI (c + 1))) (fun k i _ hk => by rw [si1 hk, hE, si1 hk, si1 hk, si1 hk, si1 hk]) (fun k i _ => by rw [hE]; rfl) D3 (by rw [t1 702 (by decide), if_neg (by omega), if_neg (by omega), if_pos rfl])
  refine caseW (fC := f_X7_addSetup (nI a) s2 s3 s4 s5 μ) (fM := f_X8_addSetup (nI a) s2 s3 s4 s5) (w := nI (c + 1)) (μc := μ3) ?_ ?_ R3
  · unfold f_X7_addSetup; rw [C.N, ixG (by omega) ha, Option.bind_some]; simp only [bT, if_false]; rw [show f_X7_fits (0 : Int32) s2 μ = some true from c_fitsG (w := 0) (by decide) g0, Option.bind_some]; simp only [bT, if_false]; rw [show f_X7_fits (1 : Int32) s3 μ = some true from c_fitsG (w := 1) (by decide) g1, Option.bind_some]; simp only [bT, if_false]; rw [show f_X7_fits (2 : Int32) s4 μ = some true from c_fitsG (w := 2) (by decide) g2, Option.bind_some]; simp only [bT, if_false]; rw [show f_X7_fits (3 : Int32) s5 μ = some true from c_fitsG (w := 3) (by decide) g3, Option.bind_some]; simp only [bT, if_false]
    simp (disch := omega) only [gck, nI_clamp]
    rw [hcC, if_pos (show nI c < (8 : Int32) from nI_lt (b := 8) (by omega) (by decide)), e1, Option.bind_some, c_place (by omega) (by omega), Option.bind_some]
    simp (disch := omega) only [Int32.add_zero, n1, n2, n3, nI_add, gck, nI_clamp]
    rw [hμ3]
  · unfold f_X8_addSetup; rw [m_lineG M ha, Option.bind_some]; simp only [bT, if_false]; rw [p0, Option.bind_some]; simp only [bT, if_false]; rw [p1, Option.bind_some]; simp only [bT, if_false]; rw [p2, Option.bind_some]; simp only [bT, if_false]; rw [p3, Option.bind_some]; simp only [bT, if_false]
    have a0 : ∀ ν, f_X8_setupAt (nI a) (nI c) (0 : Int32) ν = some (nI (62 + (32 * a + 4 * c + 0))) := fun ν => m_setupAt a c 0
    have a1 : ∀ ν, f_X8_setupAt (nI a) (nI c) (1 : Int32) ν = some (nI (62 + (32 * a + 4 * c + 1))) := fun ν => m_setupAt a c 1
    have a2 : ∀ ν, f_X8_setupAt (nI a) (nI c) (2 : Int32) ν = some (nI (62 + (32 * a + 4 * c + 2))) := fun ν => m_setupAt a c 2
    have a3 : ∀ ν, f_X8_setupAt (nI a) (nI c) (3 : Int32) ν = some (nI (62 + (32 * a + 4 * c + 3))) := fun ν => m_setupAt a c 3
    rw [m_setups M ha, Option.bind_some, hc, if_neg (show ¬ nI c = (8 : Int32) from fun w => h8 ((nI_eq (b := 8) (by omega) (by decide)).mp w)), e2, Option.bind_some]
    simp (disch := omega) only [Option.bind_some, a0, a1, a2, a3, n42, nI_add, gck, nI_clamp]
    rw [← hE, eE, nI_1]
end GB

/-! the model's loops -/
section ML3
variable {v : Nat → Nat → Int32} {μ : gM} {A : Nat}
/-- cells that the model's steps leave alone -/
def GF (μ ν : gM) : Prop := (∀ k i, k ≠ 74 → (k ≠ 60 ∨ (i ≠ 31 ∧ i ≠ 32 ∧ i ≠ 33)) → ν.1 k i = μ.1 k i) ∧ ν.2 = μ.2
def LF (μ ν : gM) : Prop := (∀ k i, k ≠ 74 → k ≠ 75 → (k ≠ 60 ∨ (i ≠ 31 ∧ i ≠ 32 ∧ i ≠ 33)) → ν.1 k i = μ.1 k i) ∧ ν.2 = μ.2
theorem LF.rf (μ : gM) : LF μ μ := ⟨fun _ _ _ _ _ => rfl, rfl⟩
theorem LF.tr {μ ν ρ : gM} (h : LF μ ν) (h2 : LF ν ρ) : LF μ ρ := ⟨fun k i a b c => (h2.1 k i a b c).trans (h.1 k i a b c), h2.2.trans h.2⟩
theorem GF.lf {μ ν : gM} (h : GF μ ν) : LF μ ν := ⟨fun k i a _ c => h.1 k i a c, h.2⟩
theorem LF.fr {μ ν : gM} (h : LF μ ν) : Fr μ ν := ⟨fun k i hr => h.1 k i (fun w => by rw [w] at hr; cases hr) (fun w => by rw [w] at hr; cases hr) (by
  by_cases c : k = 60
  · right
    subst c
    exact ⟨(fun w => by rw [w] at hr; cases hr), (fun w => by rw [w] at hr; cases hr), (fun w => by rw [w] at hr; cases hr)⟩
  · exact Or.inl c), fun k i _ => by rw [h.2]⟩
theorem LF.fq {μ ν : gM} (h : LF μ ν) : Fq μ ν := ⟨h.fr, h.1 60 6 (by decide) (by decide) (Or.inr (by decide))⟩
theorem LL.lf {μ ν : gM} (h : LF μ ν) (L : LL v μ) : LL v ν :=
  ⟨⟨fun p hp => (h.1 72 p (by decide) (by decide) (Or.inl (by decide))).trans (L.1.1 p hp), fun p hp => (h.1 71 p (by decide) (by decide) (Or.inl (by decide))).trans (L.1.2.1 p hp), (h.1 60 28 (by decide) (by decide) (Or.inr (by decide))).trans L.1.2.2⟩, (h.1 60 29 (by decide) (by decide) (Or.inr (by decide))).trans L.2.1, fun k hk hp => (h.1 73 _ (by decide) (by decide) (Or.inl (by decide))).trans (L.2.2 k hk hp)⟩
def MW (v : Nat → Nat → Int32) (L : List (Nat × Nat)) (μ : gM) : Prop := AW v 74 L μ ∧ gi μ 60 31 = nI L.length ∧ gi μ 60 32 = wrs v L ∧ gi μ 60 33 = nI (wln v L)
theorem m_goes (M : MO v μ) {L : List (Nat × Nat)} (H : MW v L μ) {l p : Nat} (hl : l < nN v) (hp : p < 2 ^ 31) (hL : L.length < 20) : ∃ ν, f_X8_goes (nI l) (nI p) μ = some ν ∧ GF μ ν ∧ MW v (L ++ [(l, p)]) ν := by
  have hb := M.1.b
  have hg := M.1.g l hl
  obtain ⟨H1, H2, H3, H4⟩ := H
  have key : j_X8_goes_25 (nI l) (nI p) (gi μ 60 31) (enc v (l, p)) μ = some (si (si (si (si μ 74 L.length (enc v (l, p))) 60 31 (nI (L.length + 1))) 60 32 (wrs v (L ++ [(l, p)]))) 60 33 (nI (wln v (L ++ [(l, p)])))) := by
    unfold j_X8_goes_25
    rw [H2]
    simp (disch := omega) only [gck, nI_clamp]
    rw [gi_sik (by decide), H2, nI_1]
    have M1 : MO v (si (si μ 74 L.length (enc v (l, p))) 60 31 (nI (L.length + 1))) := M.fr (((Fr.rf μ).si rfl).si rfl)
    rw [m_riseFrom M1 hl hp, Option.bind_some, gi_sij (by decide), gi_sik (by decide), H3]
    have M2 : ∀ x, MO v (si (si (si μ 74 L.length (enc v (l, p))) 60 31 (nI (L.length + 1))) 60 32 x) := fun x => M.fr ((((Fr.rf μ).si rfl).si rfl).si rfl)
    rw [m_length (M2 _) hl, Option.bind_some, gi_sij (by decide), gi_sij (by decide), gi_sik (by decide), H4, nI_add, wrs_a, wln_a]
    rfl
  refine ⟨si (si (si (si μ 74 L.length (enc v (l, p))) 60 31 (nI (L.length + 1))) 60 32 (wrs v (L ++ [(l, p)]))) 60 33 (nI (wln v (L ++ [(l, p)]))), ?_, ?_, ?_⟩
  · rw [← key]
    unfold f_X8_goes
    rw [m_first M hl, Option.bind_some]
    unfold enc
    by_cases c : fs v l = p
    · rw [if_pos (by rw [c]), if_pos c]
    · rw [if_neg (fun w => c ((nI_eq (by omega) hp).mp w)), if_neg c, show (100 : Int32) = nI 100 from rfl, nI_add, Nat.add_comm]
  · refine ⟨fun k i h1 h2 => ?_, rfl⟩
    simp only [si]
    rw [if_neg (by omega), if_neg (by omega), if_neg (by omega), if_neg (by omega)]
  · refine ⟨AW_o (AW_o (AW_o (AW_app H1) (by decide)) (by decide)) (by decide), ?_, ?_, gi_sii⟩
    · rw [gi_sij (by decide), gi_sij (by decide), gi_sii, List.length_append, List.length_singleton]
    · rw [gi_sij (by decide), gi_sii]
theorem m_layLoop (M : MO v μ) (H : LL v μ) {k : Nat} (hk : k < nN v) (hp : lpB (nA v) (tbr v (nA v)) k) : ∃ ν, f_X8_layLoop (nI (lc (nA v) (tbr v (nA v)) k)) μ = some ν ∧ LF μ ν ∧ MW v (lway v (nA v) k) ν := by
  have hb := M.1.b
  have hg := M.1.g k hk
  have hlc := lc_le (nA v) (tbr v (nA v)) k
  obtain ⟨μ0, h0⟩ : ∃ μ0, μ0 = si (si (si μ 60 31 (0 : Int32)) 60 32 (0 : Int32)) 60 33 (0 : Int32) := ⟨_, rfl⟩
  have F0 : LF μ μ0 := by
    rw [h0]
    refine ⟨fun a i h1 h2 h3 => ?_, rfl⟩
    simp only [si]
    rw [if_neg (by omega), if_neg (by omega), if_neg (by omega)]
  have W0 : MW v [] μ0 := by
    rw [h0]
    refine ⟨(fun i x hx => by cases hx), ?_, ?_, gi_sii⟩
    · rw [gi_sij (by decide), gi_sij (by decide), gi_sii]; rfl
    · rw [gi_sij (by decide), gi_sii]; rfl
  obtain ⟨μ1, g1, GF1, W1⟩ := m_goes (M.fr F0.fr) W0 hk (p := fs v k) (by omega) (by decide)
  have F1 : LF μ μ1 := F0.tr GF1.lf
  obtain ⟨⟨x, y, ν1⟩, h1, U, R, h, e1, e2, WW, F2, S1, Q1⟩ := gloop_rel (body := fun t => b_X8_layLoop_48 t.1 t.2.1 t.2.2.1 t.2.2.2) (fun i t => ∃ U R h g, WI v (nA v) k h g U R ∧ i = U.length + R.length ∧ t.1 = nI h ∧ t.2.1 = nI g ∧ t.2.2.1 = nI R.length ∧ LF μ t.2.2.2 ∧ MW v ((k, fs v k) :: U) t.2.2.2 ∧ ∀ i x, R[i]? = some x → gi t.2.2.2 75 i = nI x.1) (fun r => ∃ U R h, r.1 = nI h ∧ r.2.1 = nI R.length ∧ WI v (nA v) k h h U R ∧ LF μ r.2.2 ∧ MW v ((k, fs v k) :: U) r.2.2 ∧ ∀ i x, R[i]? = some x → gi r.2.2 75 i = nI x.1) 16 (fun i t hi hR => by
    obtain ⟨x, y, z, ν⟩ := t
    obtain ⟨U, R, h, g, W, hi2, e1, e2, e3, F, S, Q⟩ := hR
    have e1 : x = nI h := e1
    have e2 : y = nI g := e2
    have e3 : z = nI R.length := e3
    subst e1 e2 e3
    replace F : LF μ ν := F
    replace S : MW v ((k, fs v k) :: U) ν := S
    replace Q : ∀ i x, R[i]? = some x → gi ν 75 i = nI x.1 := Q
    have E := M.fr F.fr
    have LLn := LL.lf F H
    have room := WI_room W
    have hh := W.1
    have hgg := W.2.1
    have T := tgr_all M.1 (nA v)
    have ch : gi ν 72 h = nI (dpv v (nA v) h) := (LLn.1.1 h hh).trans (if_pos (T.1 h hh))
    have cg : gi ν 72 g = nI (dpv v (nA v) g) := (LLn.1.1 g hgg).trans (if_pos (T.1 g hgg))
    have uh : gi ν 71 h = ulv v (nA v) h := (LLn.1.2.1 h hh).trans (if_pos (T.1 h hh))
    have ug : gi ν 71 g = ulv v (nA v) g := (LLn.1.2.1 g hgg).trans (if_pos (T.1 g hgg))
    have d1 := dp_lt (A := nA v) M.1 hh
    have d2 := dp_lt (A := nA v) M.1 hgg
    show (∃ t, b_X8_layLoop_48 (nI h) (nI g) (nI R.length) ν = _ ∧ _) ∨ ∃ r, b_X8_layLoop_48 _ _ _ ν = _ ∧ _
    unfold b_X8_layLoop_48
    by_cases c : h = g
    · right
      subst c
      exact ⟨_, if_pos rfl, U, R, h, rfl, rfl, W, F, S, Q⟩
    · left
      rw [if_neg (fun w => c ((nI_eq (by omega) (by omega)).mp w))]
      simp (disch := omega) only [gck, nI_clamp]
      rw [ch, cg]
      by_cases d : dpv v (nA v) g ≤ dpv v (nA v) h
      · obtain ⟨l, l1, l2, l3, l4, l5, W2⟩ := WI_up M.1 W c d
        have hol : oO v l h < nP v := W2.1
        obtain ⟨ν2, g2, GF2, S2⟩ := m_goes E S l2 (p := h) (by omega) (by rw [List.length_cons]; omega)
        rw [if_neg (nI_nlt d (by omega)), uh, l1, g2, Option.bind_some, m_acr (M.fr (F.tr GF2.lf).fr) l2 (by omega), Option.bind_some]
        refine ⟨_, rfl, ⟨U ++ [(l, h)], R, oO v l h, g, W2, ?_, rfl, rfl, rfl, F.tr GF2.lf, S2, fun i x hx => (GF2.1 75 i (by decide) (Or.inl (by decide))).trans (Q i x hx)⟩, by omega⟩
        rw [List.length_append, List.length_singleton]; omega
      · obtain ⟨l, l1, l2, l3, l4, l5, W2⟩ := WI_dn M.1 W c d
        have hol : oO v l g < nP v := W2.2.1
        have Fa : LF μ (si ν 75 R.length (nI l)) := ⟨fun a i h1 h2 h3 => by rw [si1 h2]; exact F.1 a i h1 h2 h3, F.2⟩
        rw [if_pos (nI_lt (by omega) (by omega)), ug, l1, gi_sik (by decide), ug, l1, m_acr (M.fr Fa.fr) l2 (by omega), Option.bind_some, nI_1]
        refine ⟨_, rfl, ⟨U, R ++ [(l, oO v l g)], h, oO v l g, W2, ?_, rfl, rfl, ?_, Fa, ⟨AW_o S.1 (by decide), (gi_sik (by decide)).trans S.2.1, (gi_sik (by decide)).trans S.2.2.1, (gi_sik (by decide)).trans S.2.2.2⟩, fun i x hx => ?_⟩, by omega⟩
        · rw [List.length_append, List.length_singleton]; omega
        · show nI (R.length + 1) = _
          rw [List.length_append, List.length_singleton]
        · show gi (si ν 75 _ _) 75 i = _
          rw [gi_si]
          by_cases e : i = R.length
          · subst e
            rw [List.getElem?_append_right (Nat.le_refl _), Nat.sub_self] at hx
            rw [if_pos ⟨rfl, rfl⟩]
            cases hx; rfl
          · have hlt : i < R.length := by
              have := (List.getElem?_eq_some_iff.mp hx).1
              rw [List.length_append, List.length_singleton] at this
              omega
            rw [List.getElem?_append_left hlt] at hx
            rw [if_neg (fun w => e w.2)]
            exact Q i x hx) (by unfold gFuel; omega) (s0 := (nI (sn v k), nI (fs v k), nI 0, μ1)) ⟨[], [], sn v k, fs v k, WI_0 M.1 hk hp.1, rfl, rfl, rfl, rfl, F1, W1, fun i x hx => by cases hx⟩
  have e1 : x = nI h := e1
  have e2 : y = nI R.length := e2
  subst e1 e2
  replace F2 : LF μ ν1 := F2
  replace S1 : MW v ((k, fs v k) :: U) ν1 := S1
  replace Q1 : ∀ i x, R[i]? = some x → gi ν1 75 i = nI x.1 := Q1
  have WE := WI_e WW
  have room := WI_room WW
  have chn := WW.2.2.2.2.2
  obtain ⟨ν2, h2, F3, S3⟩ := gloop_rel (body := fun t => b_X8_layLoop_137 t.1 t.2.1 t.2.2) (fun j t => ∃ P D, R = P ++ D ∧ P.length + j = R.length ∧ (∀ y, 0 < P.length → R[P.length - 1]? = some y → t.1 = nI y.2) ∧ t.2.1 = nI P.length - 1 ∧ LF μ t.2.2 ∧ MW v ((k, fs v k) :: (U ++ D.reverse)) t.2.2 ∧ ∀ i x, R[i]? = some x → gi t.2.2 75 i = nI x.1) (fun ν => LF μ ν ∧ MW v (lway v (nA v) k) ν) R.length (fun j t hj hR => by
    obtain ⟨z, x, ν⟩ := t
    obtain ⟨P, D, hPD, hj2, e0, e1, F, S, Q⟩ := hR
    have e1 : x = nI P.length - 1 := e1
    subst e1
    replace e0 : ∀ y, 0 < P.length → R[P.length - 1]? = some y → z = nI y.2 := e0
    replace F : LF μ ν := F
    replace S : MW v ((k, fs v k) :: (U ++ D.reverse)) ν := S
    replace Q : ∀ i x, R[i]? = some x → gi ν 75 i = nI x.1 := Q
    have lenR : R.length = P.length + D.length := by rw [hPD, List.length_append]
    show (∃ t, b_X8_layLoop_137 z (nI P.length - 1) ν = _ ∧ _) ∨ ∃ r, b_X8_layLoop_137 z _ ν = _ ∧ _
    unfold b_X8_layLoop_137
    rcases List.eq_nil_or_concat P with hP | ⟨P2, y, hP⟩
    · right
      subst hP
      rw [List.nil_append] at hPD
      refine ⟨_, if_pos (show nI 0 - (1 : Int32) < 0 by decide), F, ?_⟩
      rw [← WE, hPD]; exact S
    · left
      have hP' : P = P2 ++ [y] := by rw [hP]; simp
      subst hP'
      rw [List.length_append, List.length_singleton] at hj2 lenR e0 ⊢
      have hy : R[P2.length]? = some y := by
        rw [hPD, List.append_assoc, List.getElem?_append_right (Nat.le_refl _), Nat.sub_self]; rfl
      have ym : y ∈ lway v (nA v) k := by
        rw [← WE]
        exact List.mem_cons_of_mem _ (List.mem_append_right _ (List.mem_reverse.mpr (List.mem_of_getElem? hy)))
      have yl := lway_m M.1 hk hp.1 ym
      have ez := e0 y (by omega) (by rw [Nat.add_sub_cancel]; exact hy)
      subst ez
      obtain ⟨ν3, g3, GF3, S3⟩ := m_goes (M.fr F.fr) S yl.1 (p := y.2) (by omega) (by rw [List.length_cons, List.length_append, List.length_reverse]; omega)
      rw [nI_pred, if_neg (nI_pos (by omega))]
      simp (disch := omega) only [gck, nI_clamp]
      rw [Q _ y hy, g3, Option.bind_some, show gi ν3 75 P2.length = nI y.1 from (GF3.1 75 _ (by decide) (Or.inl (by decide))).trans (Q _ y hy), m_acr (M.fr (F.tr GF3.lf).fr) yl.1 (by omega), Option.bind_some]
      refine ⟨_, rfl, ⟨P2, y :: D, ?_, by omega, fun w hw hw2 => ?_, ?_, F.tr GF3.lf, ?_, fun i x hx => (GF3.1 75 i (by decide) (Or.inl (by decide))).trans (Q i x hx)⟩, by omega⟩
      · rw [hPD, List.append_assoc]; rfl
      · show nI (oO v y.1 y.2) = nI w.2
        rw [(chn _ y hy).1 w hw hw2]
      · show nI P2.length + (-1) = nI P2.length - 1
        rw [Int32.sub_eq_add_neg]
      · show MW v ((k, fs v k) :: (U ++ (y :: D).reverse)) ν3
        rw [List.reverse_cons, ← List.append_assoc, ← List.cons_append]
        exact S3) (by unfold gFuel; omega) (s0 := (nI h, nI R.length - 1, ν1)) ⟨R, [], (List.append_nil R).symm, rfl, (fun y hy1 hy2 => by
      show nI h = nI y.2
      rw [(chn _ y hy2).2 (by omega)]), rfl, F2, (by rw [List.reverse_nil, List.append_nil]; exact S1), Q1⟩
  refine ⟨ν2, ?_, F3, S3⟩
  unfold f_X8_layLoop
  have hM0 := M.fr F0.fr
  have hM1 := M.fr F1.fr
  simp (disch := omega) only [gck, nI_clamp]
  rw [H.2.2 k hk hp, ← h0, m_first hM0 hk, Option.bind_some, g1, Option.bind_some, m_second hM1 hk, Option.bind_some, m_first hM1 hk, Option.bind_some, show gloop (fun t => b_X8_layLoop_48 t.1 t.2.1 t.2.2.1 t.2.2.2) gFuel (nI (sn v k), nI (fs v k), (0 : Int32), μ1) = _ from h1, Option.bind_some]
  show Option.bind (gloop (fun t => b_X8_layLoop_137 t.1 t.2.1 t.2.2) gFuel (nI h, nI R.length - 1, ν1)) _ = _
  rw [h2]
  rfl
end ML3

section PW
variable {v : Nat → Nat → Int32} {μ : gM} {A : Nat}
/-! both sides go along a loop -/
/-- the class's trees, all grown -/
def CT (v : Nat → Nat → Int32) (A : Nat) (μ : gM) : Prop := TC0 v (tgr v A (nP v)).1 (tgr v A (nP v)).2.1 μ
theorem CT.c {C : CI v} {μ : gM} (T : CT v A μ) {p : Nat} (hp : p < nP v) : gi μ 9 p = ulv v A p ∧ gi μ 10 p = nI (upv v A p) ∧ gi μ 11 p = nI (dpv v A p) := T.2.1 p hp ((tgr_all C A).1 p hp)
theorem CT.cg {μ ν : gM} (T : CT v A μ) (h : ∀ k i, 7 ≤ k → k < 13 → gi ν k i = gi μ k i) : CT v A ν :=
  ⟨fun p hp => (h 8 p (by decide) (by decide)).trans (T.1 p hp), fun p hp hm => ⟨(h 9 p (by decide) (by decide)).trans (T.2.1 p hp hm).1, (h 10 p (by decide) (by decide)).trans (T.2.1 p hp hm).2.1, (h 11 p (by decide) (by decide)).trans (T.2.1 p hp hm).2.2⟩, (h 7 5 (by decide) (by decide)).trans T.2.2⟩
theorem dp_lt (C : CI v) {p : Nat} (hp : p < nP v) : dpv v A p < 16 := by
  have T := tgr_all C A
  have h := T.2.2.1 p (T.1 p hp)
  have h2 := cntB_le (tgr v A (nP v)).1 (nP v)
  have hb := C.b
  have : dpv v A p < cntB (tgr v A (nP v)).1 (nP v) := h
  omega
theorem c_from (C : CO v μ) {k p : Nat} (hk : k < nN v) (hp : p < 2 ^ 31) : f_X2_stepFrom (nI k) (nI p) μ = some (enc v (k, p)) := by
  have hb := C.1.b
  have hg := C.1.g k hk
  unfold f_X2_stepFrom enc
  simp (disch := omega) only [gck, nI_clamp, c_fs C hk]
  by_cases c : fs v k = p
  · rw [if_pos (by rw [c]), if_pos c]
  · rw [if_neg (fun w => c ((nI_eq (by omega) hp).mp w)), if_neg c, show (100 : Int32) = nI 100 from rfl, nI_add]
/-- cells that a walk leaves alone -/
def WF (μ ν : gM) : Prop := (∀ k i, k ≠ 18 → k ≠ 19 → (k ≠ 6 ∨ i ≠ 8) → ν.1 k i = μ.1 k i) ∧ ν.2 = μ.2
theorem WF.fr {μ ν : gM} (h : WF μ ν) : Fr μ ν := ⟨fun k i hr => h.1 k i (fun w => by rw [w] at hr; cases hr) (fun w => by rw [w] at hr; cases hr) (Or.inl (fun w => by rw [w] at hr; cases hr)), fun k i _ => by rw [h.2]⟩
theorem c_walk (C : CO v μ) (T : CT v A μ) {k : Nat} (hk : k < nN v) (hA : A.testBit k = true) : ∃ ν, f_X2_walk (nI k) μ = some ν ∧ WF μ ν ∧ AW v 18 (lway v A k) ν ∧ gi ν 6 8 = nI (lway v A k).length ∧ (lway v A k).length ≤ 16 := by
  have hb := C.1.b
  have hg := C.1.g k hk
  obtain ⟨μ0, h0⟩ : ∃ μ0, μ0 = si (si μ 18 0 (nI k)) 6 8 (1 : Int32) := ⟨_, rfl⟩
  have F0 : WF μ μ0 := by
    rw [h0]
    refine ⟨fun a i h1 h2 h3 => ?_, rfl⟩
    simp only [si]
    rw [if_neg (by omega), if_neg (by omega)]
  obtain ⟨⟨x, ν1⟩, h1, U, R, h, e1, W1, F1, S1, B1, Q1⟩ := gloop_rel (body := fun t => b_X2_walk_33 t.1 t.2.1 t.2.2.1 t.2.2.2.1 t.2.2.2.2) (fun i t => ∃ U R h g, WI v A k h g U R ∧ i = U.length + R.length ∧ t.1 = nI R.length ∧ t.2.1 = nI h ∧ t.2.2.1 = nI g ∧ t.2.2.2.1 = nI i ∧ WF μ t.2.2.2.2 ∧ AW v 18 ((k, fs v k) :: U) t.2.2.2.2 ∧ gi t.2.2.2.2 6 8 = nI (U.length + 1) ∧ AW v 19 R t.2.2.2.2) (fun r => ∃ U R h, r.1 = nI R.length ∧ WI v A k h h U R ∧ WF μ r.2 ∧ AW v 18 ((k, fs v k) :: U) r.2 ∧ gi r.2 6 8 = nI (U.length + 1) ∧ AW v 19 R r.2) 16 (fun i t hi hR => by
    obtain ⟨x, y, z, w, ν⟩ := t
    obtain ⟨U, R, h, g, W, hi2, e1, e2, e3, e4, F, S, B, Q⟩ := hR
    have e1 : x = nI R.length := e1
    have e2 : y = nI h := e2
    have e3 : z = nI g := e3
    have e4 : w = nI i := e4
    subst e1 e2 e3 e4
    replace F : WF μ ν := F
    replace S : AW v 18 ((k, fs v k) :: U) ν := S
    replace B : gi ν 6 8 = nI (U.length + 1) := B
    replace Q : AW v 19 R ν := Q
    have E := C.fr F.fr
    have room := WI_room W
    have hh := W.1
    have hgg := W.2.1
    have T2 : CT v A ν := T.cg (fun a j h1 h2 => F.1 a j (by omega) (by omega) (by omega))
    have ch := T2.c (C := C.1) hh
    have cg := T2.c (C := C.1) hgg
    have d1 := dp_lt (A := A) C.1 hh
    have d2 := dp_lt (A := A) C.1 hgg
    show (∃ t, b_X2_walk_33 (nI R.length) (nI h) (nI g) (nI i) ν = _ ∧ _) ∨ ∃ r, b_X2_walk_33 _ _ _ _ ν = _ ∧ _
    unfold b_X2_walk_33
    rw [if_neg (ge16 (show i < 16 by omega))]
    by_cases c : h = g
    · right
      subst c
      exact ⟨_, if_pos rfl, U, R, h, rfl, W, F, S, B, Q⟩
    · left
      rw [if_neg (fun w => c ((nI_eq (by omega) (by omega)).mp w)), gck (by omega) (by decide), gck (by omega) (by decide), nI_clamp (by omega), nI_clamp (by omega), ch.2.2, cg.2.2]
      by_cases d : dpv v A g ≤ dpv v A h
      · obtain ⟨l, l1, l2, l3, l4, l5, W2⟩ := WI_up C.1 W c d
        have hol : oO v l h < nP v := W2.1
        rw [if_neg (nI_nlt d (by omega))]
        unfold j_X2_walk_75 j_X2_walk_89
        rw [if_neg (by decide)]
        simp (disch := omega) only [gck, nI_clamp]
        rw [ch.1, ch.2.1, l1, l4, if_neg (m1_ne (by omega)), if_neg (by decide), c_from E l2 (by omega), Option.bind_some, B]
        simp (disch := omega) only [gck, nI_clamp]
        rw [gi_sik (by decide), B, nI_1, nI_1]
        refine ⟨_, rfl, ⟨U ++ [(l, h)], R, oO v l h, g, W2, ?_, rfl, rfl, rfl, rfl, ⟨fun a j h1 h2 h3 => ?_, F.2⟩, ?_, ?_, ?_⟩, by omega⟩
        · rw [List.length_append, List.length_singleton]; omega
        · show (si (si ν 18 _ _) 6 8 _).1 a j = _
          simp only [si]
          rw [if_neg (by omega), if_neg (by omega)]
          exact F.1 a j h1 h2 h3
        · have := AW_app (x := (l, h)) S
          rw [List.length_cons, List.cons_append] at this
          exact AW_o this (by decide)
        · show gi (si (si ν 18 _ _) 6 8 _) 6 8 = _
          rw [gi_sii, List.length_append, List.length_singleton]
        · exact AW_o (AW_o Q (by decide)) (by decide)
      · obtain ⟨l, l1, l2, l3, l4, l5, W2⟩ := WI_dn C.1 W c d
        have hol : oO v l g < nP v := W2.2.1
        rw [if_pos (nI_lt (by omega) (by omega))]
        unfold j_X2_walk_75 j_X2_walk_89
        rw [if_pos rfl]
        simp (disch := omega) only [gck, nI_clamp]
        rw [cg.1, cg.2.1, l1, l4, if_neg (m1_ne (by omega)), if_pos trivial, c_from E l2 (by omega), Option.bind_some]
        simp (disch := omega) only [gck, nI_clamp, nI_1]
        refine ⟨_, rfl, ⟨U, R ++ [(l, oO v l g)], h, oO v l g, W2, ?_, ?_, rfl, rfl, rfl, ⟨fun a j h1 h2 h3 => ?_, F.2⟩, AW_o S (by decide), (gi_sik (by decide)).trans B, AW_app Q⟩, by omega⟩
        · rw [List.length_append, List.length_singleton]; omega
        · show nI (R.length + 1) = _
          rw [List.length_append, List.length_singleton]
        · show (si ν 19 _ _).1 a j = _
          rw [si1 h2]; exact F.1 a j h1 h2 h3) (by unfold gFuel; omega) (s0 := (nI 0, nI (sn v k), nI (fs v k), nI 0, μ0)) ⟨[], [], sn v k, fs v k, WI_0 C.1 hk hA, rfl, rfl, rfl, rfl, rfl, F0, (by
      intro i x hx
      cases i with
      | zero =>
        have : some (k, fs v k) = some x := hx
        cases this
        show gi μ0 18 0 = _
        rw [h0, gi_sik (by decide), gi_sii]
        exact (if_pos rfl).symm
      | succ i => cases hx), (by
      show gi μ0 6 8 = _
      rw [h0]; exact gi_sii), (fun i x hx => by cases hx)⟩
  have e1 : x = nI R.length := e1
  subst e1
  have WE := WI_e W1
  have room := WI_room W1
  have len : (lway v A k).length = U.length + R.length + 1 := by
    rw [← WE]; simp
  obtain ⟨ν2, h2, F2, S2, B2⟩ := gloop_rel (body := fun t => b_X2_walk_197 t.1 t.2) (fun j t => ∃ P D, R = P ++ D ∧ P.length + j = R.length ∧ t.1 = nI P.length - 1 ∧ WF μ t.2 ∧ AW v 18 ((k, fs v k) :: (U ++ D.reverse)) t.2 ∧ gi t.2 6 8 = nI (U.length + D.length + 1) ∧ AW v 19 R t.2) (fun ν => WF μ ν ∧ AW v 18 (lway v A k) ν ∧ gi ν 6 8 = nI (lway v A k).length) R.length (fun j t hj hR => by
    obtain ⟨x, ν⟩ := t
    obtain ⟨P, D, hPD, hj2, e1, F, S, B, Q⟩ := hR
    have e1 : x = nI P.length - 1 := e1
    subst e1
    replace F : WF μ ν := F
    replace S : AW v 18 ((k, fs v k) :: (U ++ D.reverse)) ν := S
    replace B : gi ν 6 8 = nI (U.length + D.length + 1) := B
    replace Q : AW v 19 R ν := Q
    have lenR : R.length = P.length + D.length := by rw [hPD, List.length_append]
    show (∃ t, b_X2_walk_197 (nI P.length - 1) ν = _ ∧ _) ∨ ∃ r, b_X2_walk_197 _ ν = _ ∧ _
    unfold b_X2_walk_197
    rcases List.eq_nil_or_concat P with hP | ⟨P2, y, hP⟩
    · right
      subst hP
      rw [List.nil_append] at hPD
      refine ⟨_, if_pos (show nI 0 - (1 : Int32) < 0 by decide), F, ?_, ?_⟩
      · rw [← WE, hPD]; exact S
      · rw [len, hPD]; exact B
    · left
      have hP' : P = P2 ++ [y] := by rw [hP]; simp
      subst hP'
      rw [List.length_append, List.length_singleton] at hj2 lenR ⊢
      have hy : R[P2.length]? = some y := by
        rw [hPD, List.append_assoc, List.getElem?_append_right (Nat.le_refl _), Nat.sub_self]; rfl
      rw [nI_pred, if_neg (nI_pos (by omega)), gck (by omega) (by decide), B, gck (by omega) (by decide), nI_clamp (by omega), nI_clamp (by omega), Q _ y hy, gi_sik (by decide), B, nI_1]
      refine ⟨_, rfl, ⟨P2, y :: D, ?_, by omega, ?_, ⟨fun a i h1 h2 h3 => ?_, F.2⟩, ?_, ?_, AW_o (AW_o Q (by decide)) (by decide)⟩, by omega⟩
      · rw [hPD, List.append_assoc]; rfl
      · show nI P2.length + (-1) = nI P2.length - 1
        rw [Int32.sub_eq_add_neg]
      · show (si (si ν 18 _ _) 6 8 _).1 a i = _
        simp only [si]
        rw [if_neg (by omega), if_neg (by omega)]
        exact F.1 a i h1 h2 h3
      · have := AW_app (x := y) S
        rw [List.length_cons, List.length_append, List.length_reverse, List.cons_append, List.append_assoc] at this
        rw [List.reverse_cons]
        exact AW_o this (by decide)
      · show gi (si (si ν 18 _ _) 6 8 _) 6 8 = _
        rw [gi_sii, List.length_cons]
        exact congrArg nI (by omega)) (by unfold gFuel; omega) (s0 := (nI R.length - 1, ν1)) ⟨R, [], by rw [List.append_nil], rfl, rfl, F1, by rw [List.reverse_nil, List.append_nil]; exact S1, B1, Q1⟩
  refine ⟨ν2, ?_, F2, S2, B2, by omega⟩
  unfold f_X2_walk j_X2_walk_192
  rw [gckb (by decide), gck (by omega) (by decide), gck (by omega) (by decide), nI_clamp (by omega), show (0 : Int32).toNatClampNeg = 0 by decide, ← h0]
  have C0 := C.fr F0.fr
  rw [c_sn C0 hk, c_fs C0 hk, show gloop (fun t => b_X2_walk_33 t.1 t.2.1 t.2.2.1 t.2.2.2.1 t.2.2.2.2) gFuel ((0 : Int32), nI (sn v k), nI (fs v k), (0 : Int32), μ0) = _ from h1, Option.bind_some]
  rw [show gloop (fun t => b_X2_walk_197 t.1 t.2) gFuel (nI R.length - (1 : Int32), ν1) = _ from h2]
  rfl
end PW

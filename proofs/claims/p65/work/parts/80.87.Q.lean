section QL
variable {v : Nat → Nat → Int32} {μ : gM} {A : Nat}
/-! what the loops answer (33 34 35 36 37) -/
noncomputable def lpkF (A : Nat) (b : Int32) (N i : Nat) : Nat := if h : i < lc A b N then Classical.choose (lc_ex N h) else 0
noncomputable def lpk (v : Nat → Nat → Int32) (A i : Nat) : Nat := lpkF A (tbr v A) (nN v) i
theorem lpk_s {i : Nat} (h : i < nlp v A) : lpk v A i < nN v ∧ lpB A (tbr v A) (lpk v A i) ∧ lc A (tbr v A) (lpk v A i) = i := by
  have h : i < lc A (tbr v A) (nN v) := h
  unfold lpk lpkF
  rw [dif_pos h]
  exact Classical.choose_spec (lc_ex (nN v) h)
noncomputable def XL (v : Nat → Nat → Int32) (A i : Nat) : List (Nat × Nat) := lway v A (lpk v A i)
theorem lway_len (C : CI v) {k : Nat} (hk : k < nN v) (hA : A.testBit k = true) : (lway v A k).length ≤ 16 := by
  have hb := C.b
  have G : ∀ n h g U R, WI v A k h g U R → 16 ≤ U.length + R.length + n → (lway v A k).length ≤ 16 := by
    intro n
    induction n with
    | zero => intro h g U R W hn; have := WI_room W; omega
    | succ n ih =>
      intro h g U R W hn
      by_cases c : h = g
      · subst c
        have := WI_room W
        rw [← WI_e W, List.length_cons, List.length_append, List.length_reverse]
        omega
      · by_cases d : dpv v A g ≤ dpv v A h
        · obtain ⟨l, l1, l2, l3, l4, l5, W2⟩ := WI_up C W c d
          exact ih _ _ _ _ W2 (by rw [List.length_append, List.length_singleton]; omega)
        · obtain ⟨l, l1, l2, l3, l4, l5, W2⟩ := WI_dn C W c d
          exact ih _ _ _ _ W2 (by rw [List.length_append, List.length_singleton]; omega)
  exact G 16 _ _ _ _ (WI_0 C hk hA) (by omega)
theorem XL_m (C : CI v) {i : Nat} (h : i < nlp v A) : (∀ x, x ∈ XL v A i → x.1 < nN v) ∧ (XL v A i).length ≤ 16 := by
  obtain ⟨a, b, c⟩ := lpk_s h
  exact ⟨fun x hx => (lway_m C a b.1 hx).1, lway_len C a b.1⟩
theorem wrs_b (C : CI v) : ∀ L : List (Nat × Nat), (∀ x, x ∈ L → x.1 < nN v) → ∀ (s : Int32) (B : Nat), s.toInt.natAbs ≤ B → B + 32800000 * L.length < 2147483647 → (List.foldl (fun s (x : Nat × Nat) => s + rfr v x.2 x.1) s L).toInt.natAbs ≤ B + 32800000 * L.length
  | [], _, s, B, h, _ => h
  | x :: L, hL, s, B, h, hB9 => by
    rw [List.length_cons] at hB9 ⊢
    have hr := rfr_b C (hL x List.mem_cons_self) x.2
    have e : (s + rfr v x.2 x.1).toInt = s.toInt + (rfr v x.2 x.1).toInt := by
      rw [Int32.toInt_add, Int.bmod_eq_of_le (by omega) (by omega)]
    have := wrs_b C L (fun y hy => hL y (List.mem_cons_of_mem _ hy)) (s + rfr v x.2 x.1) (B + 32800000) (by rw [e]; omega) (by omega)
    show (List.foldl _ (s + rfr v x.2 x.1) L).toInt.natAbs ≤ _
    omega
theorem wrs_B (C : CI v) {L : List (Nat × Nat)} (h : ∀ x, x ∈ L → x.1 < nN v) (hl : L.length ≤ 16) : (wrs v L).toInt.natAbs ≤ 524800000 := by
  have := wrs_b C L h 0 0 (by decide) (by omega)
  have e : wrs v L = List.foldl (fun s (x : Nat × Nat) => s + rfr v x.2 x.1) 0 L := rfl
  rw [e]; omega
noncomputable def wE (v : Nat → Nat → Int32) (A i : Nat) : Int := ((wrs v (XL v A i)).toInt.natAbs : Int) - (lmt v (XL v A i)).toInt
theorem lmt_t (C : CI v) {i : Nat} (h : i < nlp v A) : 0 ≤ (lmt v (XL v A i)).toInt ∧ (lmt v (XL v A i)).toInt < 524288 := by
  obtain ⟨h1, h2⟩ := XL_m C h
  obtain ⟨r, r1, r2, r3, r4⟩ := lmt_c C h1 h2
  rw [r2, nI_toInt (by omega)]; omega
theorem FD.at {ν : gM} (H : FD v A ν) {i : Nat} (hi : i < nlp v A) : gi ν 13 i = nI (lpk v A i) ∧ gi ν 14 i = wset (XL v A i) ∧ gi ν 15 i = nI (wln v (XL v A i)) ∧ gi ν 16 i = wrs v (XL v A i) ∧ gi ν 17 i = lmt v (XL v A i) := by
  obtain ⟨a, b, c⟩ := lpk_s hi
  have := H.2.2 _ a b
  rw [c] at this
  exact this
theorem nlp_le (C : CI v) : nlp v A ≤ 20 := by
  have h1 : nlp v A ≤ nN v := lc_le A (tbr v A) (nN v)
  have hb := C.b
  omega
theorem c_exc (C : CI v) {ν : gM} (H : FD v A ν) {i : Nat} (hi : i < nlp v A) : ∃ q, f_X2_excess (nI i) ν = some q ∧ q.toInt = wE v A i := by
  obtain ⟨h1, h2, h3, h4, h5⟩ := H.at hi
  have hn := nlp_le (A := A) C
  have hm := XL_m C hi
  have hw := wrs_B C hm.1 hm.2
  have ht := lmt_t C hi
  have ei : (iabs (wrs v (XL v A i))).toInt = ((wrs v (XL v A i)).toInt.natAbs : Int) := iabs_toInt (by omega)
  refine ⟨iabs (wrs v (XL v A i)) - lmt v (XL v A i), ?_, ?_⟩
  · unfold f_X2_excess
    simp (disch := omega) only [gck, nI_clamp]
    rw [h4, h5]
  · unfold wE
    rw [Int32.toInt_sub, ei, Int.bmod_eq_of_le (by omega) (by omega)]
theorem c_findA (C : CO v μ) : ∃ ν, f_X2_find (gi μ 34 4) μ = some ν ∧ Fr μ ν ∧ FD v (nA v) ν := by
  rw [C.A]
  exact c_find C C.1.A31
/-- the loops that fail, as a set -/
noncomputable def bsf (v : Nat → Nat → Int32) (A : Nat) : Nat → Int32
  | 0 => 0
  | i + 1 => if 0 < wE v A i then bsf v A i ||| ((1 : Int32) <<< (nI i &&& 31)) else bsf v A i
theorem c_badSet (C : CI v) {ν : gM} (H : FD v A ν) : f_X2_badSet ν = some (bsf v A (nlp v A)) := by
  have hn := nlp_le (A := A) C
  have g : gloop (fun t => b_X2_badSet_4 t.1 t.2 ν) gFuel (bsf v A 0, nI 0) = some (bsf v A (nlp v A)) := by
    refine gloop_run (fun i => (bsf v A i, nI i)) (nlp v A) (fun i hi => ?_) ?_ gFuel (by unfold gFuel; omega)
    · show b_X2_badSet_4 (bsf v A i) (nI i) ν = some (Sum.inl (bsf v A (i + 1), nI (i + 1)))
      obtain ⟨q, q1, q2⟩ := c_exc C H hi
      unfold b_X2_badSet_4
      rw [H.2.1, if_neg (nI_ge hi (by omega)), q1, Option.bind_some, nI_1]
      show _ = some (Sum.inl ((if 0 < wE v A i then bsf v A i ||| ((1 : Int32) <<< (nI i &&& 31)) else bsf v A i), nI (i + 1)))
      by_cases c : 0 < wE v A i
      · rw [if_pos c]
        refine if_neg (fun w => ?_)
        rw [Int32.le_iff_toInt_le, q2] at w
        have : (0 : Int32).toInt = 0 := by decide
        omega
      · rw [if_neg c]
        refine if_pos ?_
        rw [Int32.le_iff_toInt_le, q2]
        have : (0 : Int32).toInt = 0 := by decide
        omega
    · show b_X2_badSet_4 (bsf v A (nlp v A)) (nI (nlp v A)) ν = _
      unfold b_X2_badSet_4
      rw [H.2.1, if_pos (nI_le (Nat.le_refl _) (by omega))]
  unfold f_X2_badSet
  rw [show gloop (fun t => b_X2_badSet_4 t.1 t.2 ν) gFuel ((0 : Int32), (0 : Int32)) = _ from g]
  rfl
end QL

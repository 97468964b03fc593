/-! what the loops answer (38 39 40) -/
section QM
variable {v : Nat → Nat → Int32} {μ : gM} {A : Nat}
noncomputable def wlf (v : Nat → Nat → Int32) (A : Nat) : Nat → Option Nat × Int
  | 0 => (none, 0)
  | i + 1 => if wE v A i ≤ (wlf v A i).2 then wlf v A i else (some i, wE v A i)
theorem wlf_s (i : Nat) : wlf v A (i + 1) = if wE v A i ≤ (wlf v A i).2 then wlf v A i else (some i, wE v A i) := rfl
theorem wlf_I : ∀ i, 0 ≤ (wlf v A i).2 ∧ ((wlf v A i).1 = none → (wlf v A i).2 = 0) ∧ ∀ j, (wlf v A i).1 = some j → j < i
  | 0 => ⟨Int.le_refl _, fun _ => rfl, fun j h => by cases h⟩
  | i + 1 => by
    obtain ⟨h1, h2, h3⟩ := wlf_I i
    rw [wlf_s]
    by_cases c : wE v A i ≤ (wlf v A i).2
    · rw [if_pos c]; exact ⟨h1, h2, fun j h => Nat.lt_succ_of_lt (h3 j h)⟩
    · rw [if_neg c]
      refine ⟨(by show 0 ≤ wE v A i; omega), (fun h => by cases h), fun j h => ?_⟩
      have : i = j := Option.some.inj h
      omega
theorem sim_38 (R : Rel μ) : simOK μ (f_case_38 μ) := by
  refine workE (fC := f_X7_worstLoop μ) (fM := f_X8_worstLoop) R ?_
  obtain ⟨v, hv⟩ : ∃ v, v = nv 34 μ := ⟨_, rfl⟩
  obtain ⟨A, hA⟩ : ∃ A, A = nA v := ⟨_, rfl⟩
  obtain ⟨ν, e, F, H⟩ := c_findA R.co
  have C := R.1
  rw [← hv] at H C ⊢
  rw [← hA] at H
  have hn := nlp_le (A := A) C
  refine ⟨oI (wlf v A (nlp v A)).1, ν, ?_, F, fun ρ M => ?_⟩
  · obtain ⟨q, h1, h2⟩ := gloop_rel (body := fun t => b_X7_worstLoop_24 t.1 t.2.1 t.2.2 ν) (fun i t => t.1 = oI (wlf v A i).1 ∧ t.2.1.toInt = (wlf v A i).2 ∧ t.2.2 = nI i) (fun q => q = oI (wlf v A (nlp v A)).1) (nlp v A) (fun i t hi hR => by
      obtain ⟨x, y, z⟩ := t
      obtain ⟨a1, a2, a3⟩ := hR
      have a1 : x = oI (wlf v A i).1 := a1
      have a2 : y.toInt = (wlf v A i).2 := a2
      have a3 : z = nI i := a3
      subst a1 a3
      show (∃ t, b_X7_worstLoop_24 _ y (nI i) ν = _ ∧ _) ∨ ∃ r, b_X7_worstLoop_24 _ y _ ν = _ ∧ _
      unfold b_X7_worstLoop_24
      rw [H.2.1]
      by_cases c : i < nlp v A
      · left
        obtain ⟨q, q1, q2⟩ := c_exc C H c
        rw [if_neg (nI_ge c (by omega)), q1, Option.bind_some, nI_1, Option.bind_some]
        by_cases d : wE v A i ≤ (wlf v A i).2
        · rw [if_pos (Int32.le_iff_toInt_le.mpr (by rw [q2, a2]; exact d))]
          exact ⟨_, rfl, ⟨by rw [wlf_s, if_pos d], by rw [wlf_s, if_pos d]; exact a2, rfl⟩, c⟩
        · rw [if_neg (fun w => d (by rw [Int32.le_iff_toInt_le, q2, a2] at w; exact w))]
          exact ⟨_, rfl, ⟨by rw [wlf_s, if_neg d]; rfl, by rw [wlf_s, if_neg d]; exact q2, rfl⟩, c⟩
      · right
        have e : i = nlp v A := by omega
        subst e
        exact ⟨_, if_pos (nI_le (Nat.le_refl _) (by omega)), rfl⟩) (by unfold gFuel; omega) (s0 := (-1, 0, nI 0)) ⟨rfl, (show (0 : Int32).toInt = 0 by decide), rfl⟩
    subst h2
    unfold f_X7_worstLoop
    rw [e, Option.bind_some, show gloop (fun t => b_X7_worstLoop_24 t.1 t.2.1 t.2.2 ν) gFuel ((-1 : Int32), (0 : Int32), (0 : Int32)) = _ from h1]
    rfl
  · obtain ⟨ν1, e1, F1, L1⟩ := m_layL (M.si6 0)
    have M1 := (M.si6 0).fr F1.1
    obtain ⟨⟨x, ν2⟩, h1, h2, F2⟩ := gloop_rel (body := fun t => b_X8_worstLoop_16 t.1 t.2.1 t.2.2.1 t.2.2.2) (fun i t => t.1 = oI (wlf v A i).1 ∧ t.2.1.toInt = (wlf v A i).2 ∧ t.2.2.1 = nI i ∧ LF ν1 t.2.2.2 ∧ LL v t.2.2.2) (fun q => q.1 = oI (wlf v A (nlp v A)).1 ∧ LF ν1 q.2) (nlp v A) (fun i t hi hR => by
      obtain ⟨x, y, z, ν⟩ := t
      obtain ⟨a1, a2, a3, F, L⟩ := hR
      have a1 : x = oI (wlf v A i).1 := a1
      have a2 : y.toInt = (wlf v A i).2 := a2
      have a3 : z = nI i := a3
      subst a1 a3
      replace F : LF ν1 ν := F
      replace L : LL v ν := L
      show (∃ t, b_X8_worstLoop_16 _ y (nI i) ν = _ ∧ _) ∨ ∃ r, b_X8_worstLoop_16 _ y _ ν = _ ∧ _
      unfold b_X8_worstLoop_16
      rw [L.2.1, ← hA]
      by_cases c : i < nlp v A
      · left
        have c' : i < nlp v (nA v) := by rw [← hA]; exact c
        obtain ⟨ν3, g1, g2, g3⟩ := m_isBad (M1.fr F.fr) L c'
        have hm := XL_m (A := A) C c
        have hw := wrs_B C hm.1 hm.2
        have ht := lmt_t (A := A) C c
        rw [← hA] at g1 g3
        have wI := wlf_I (v := v) (A := A) i
        rw [if_neg (nI_ge c (by omega)), g1, Option.bind_some, nI_1]
        by_cases d : 0 < wE v A i
        · obtain ⟨w, y1, y2⟩ := size32 (wrs v (XL v A i)) ν3
          have M3 := M1.fr (F.tr g2).fr
          have dt : (w - (lmt v (XL v A i)).toInt64).toInt = wE v A i := by
            rw [Int64.toInt_sub, y2, Int32.toInt_toInt64, Int.bmod_eq_of_le (by omega) (by omega)]
            rfl
          rw [decide_eq_true d, if_neg (show ¬ b2i true = 0 by decide), g3.2.2.1, y1, Option.bind_some, m_allow M3 hm.1 hm.2 g3, Option.bind_some]
          cases ew : (wlf v A i).1 with
          | none =>
            have hz := wI.2.1 ew
            rw [if_pos (show oI none < 0 by decide)]
            have dd : ¬ wE v A i ≤ (wlf v A i).2 := by omega
            exact ⟨_, rfl, ⟨by rw [wlf_s, if_neg dd]; rfl, by rw [wlf_s, if_neg dd]; exact dt, rfl, F.tr g2, L.lf g2⟩, c⟩
          | some j =>
            have hj := wI.2.2 j ew
            rw [if_neg (show ¬ oI (some j) < 0 from lt0_I (by omega))]
            by_cases dd : wE v A i ≤ (wlf v A i).2
            · rw [if_neg (fun q => by rw [Int64.lt_iff_toInt_lt, dt, a2] at q; omega)]
              exact ⟨_, rfl, ⟨by rw [wlf_s, if_pos dd, ew], by rw [wlf_s, if_pos dd]; exact a2, rfl, F.tr g2, L.lf g2⟩, c⟩
            · rw [if_pos (by rw [Int64.lt_iff_toInt_lt, dt, a2]; omega)]
              exact ⟨_, rfl, ⟨by rw [wlf_s, if_neg dd]; rfl, by rw [wlf_s, if_neg dd]; exact dt, rfl, F.tr g2, L.lf g2⟩, c⟩
        · have dd : wE v A i ≤ (wlf v A i).2 := by omega
          rw [decide_eq_false d, if_pos (show b2i false = 0 from rfl)]
          exact ⟨_, rfl, ⟨by rw [wlf_s, if_pos dd], by rw [wlf_s, if_pos dd]; exact a2, rfl, F.tr g2, L.lf g2⟩, c⟩
      · right
        have e : i = nlp v A := by omega
        subst e
        exact ⟨_, if_pos (nI_le (Nat.le_refl _) (by omega)), rfl, F⟩) (by unfold gFuel; omega) (s0 := (-1, 0, nI 0, ν1)) ⟨rfl, (show (0 : Int64).toInt = 0 by decide), rfl, LF.rf ν1, L1⟩
    have h2 : x = oI (wlf v A (nlp v A)).1 := h2
    subst h2
    refine ⟨ν2, ?_, ((si60 0).tr F1.1).tr (LF.fr F2)⟩
    unfold f_X8_worstLoop
    rw [e1, Option.bind_some, show gloop (fun t => b_X8_worstLoop_16 t.1 t.2.1 t.2.2.1 t.2.2.2) gFuel ((-1 : Int32), (0 : Int64), (0 : Int32), ν1) = _ from h1]
    rfl
/-- lines in a loop -/
theorem wset_f {k : Nat} (hk : k < 32) : ∀ (L : List (Nat × Nat)) (s : Int32), (∀ x, x ∈ L → x.1 < 32) → (bt (List.foldl (fun s (x : Nat × Nat) => s ||| ((1 : Int32) <<< (nI x.1 &&& 31))) s L) k = true ↔ bt s k = true ∨ ∃ x, x ∈ L ∧ x.1 = k)
  | [], s, _ => ⟨Or.inl, fun h => h.elim id (fun ⟨x, hx, _⟩ => by cases hx)⟩
  | x :: L, s, hL => by
    show bt (List.foldl _ (s ||| ((1 : Int32) <<< (nI x.1 &&& 31))) L) k = true ↔ _
    rw [wset_f hk L _ (fun y hy => hL y (List.mem_cons_of_mem _ hy)), b_or, b_one x.1 (hL x List.mem_cons_self) k hk, Bool.or_eq_true, decide_eq_true_iff]
    constructor
    · rintro ((h | h) | ⟨y, hy, h⟩)
      · exact Or.inl h
      · exact Or.inr ⟨x, List.mem_cons_self, h.symm⟩
      · exact Or.inr ⟨y, List.mem_cons_of_mem _ hy, h⟩
    · rintro (h | ⟨y, hy, h⟩)
      · exact Or.inl (Or.inl h)
      · rcases List.mem_cons.mp hy with e | e
        · exact Or.inl (Or.inr (by rw [← h, e]))
        · exact Or.inr ⟨y, e, h⟩
theorem wset_b {k : Nat} (hk : k < 32) {L : List (Nat × Nat)} (hL : ∀ x, x ∈ L → x.1 < 32) : bt (wset L) k = true ↔ ∃ x, x ∈ L ∧ x.1 = k := by
  have := wset_f hk L 0 hL
  rw [b_0] at this
  exact this.trans ⟨fun h => h.elim (fun w => by cases w) id, Or.inr⟩
theorem m_holds {L : List (Nat × Nat)} (H : MW v L μ) (h : ∀ x, x ∈ L → x.1 < 20) (hl : L.length ≤ 16) {k : Nat} (hk : k < 32) : f_X8_holdsLine (nI k) μ = some (bt (wset L) k) := by
  have hb := wset_b hk (L := L) (fun x hx => by have := h x hx; omega)
  obtain ⟨q, h1, h2⟩ := gloop_rel (body := fun t => b_X8_holdsLine_2 (nI k) t μ) (fun i t => t = nI i ∧ ∀ j x, j < i → L[j]? = some x → x.1 ≠ k) (fun q => (q = Sum.inl () ∧ bt (wset L) k = false) ∨ (q = Sum.inr true ∧ bt (wset L) k = true)) L.length (fun i t hi hR => by
    obtain ⟨e, O⟩ := hR
    subst e
    show (∃ t, b_X8_holdsLine_2 (nI k) (nI i) μ = _ ∧ _) ∨ ∃ r, b_X8_holdsLine_2 _ _ μ = _ ∧ _
    unfold b_X8_holdsLine_2
    rw [H.2.1]
    by_cases c : i < L.length
    · obtain ⟨x, hx⟩ : ∃ x, L[i]? = some x := ⟨L[i], List.getElem?_eq_getElem c⟩
      have hxm : x ∈ L := List.mem_of_getElem? hx
      have hx20 := h x hxm
      have en : gi μ 74 i - gi μ 74 i / (100 : Int32) * (100 : Int32) = nI x.1 := by
        rw [H.1 i x hx]
        unfold enc
        by_cases e : fs v x.1 = x.2
        · rw [if_pos e, show (100 : Int32) = nI 100 from rfl, pk_div (by omega) (by decide) (by decide), Nat.div_eq_of_lt (by omega)]
          show nI x.1 - 0 * nI 100 = _
          rw [Int32.zero_mul, Int32.sub_zero]
        · rw [if_neg e, show (100 : Int32) = nI 100 from rfl, pk_div (by omega) (by decide) (by decide), show (x.1 + 100) / 100 = 1 by omega]
          show nI (x.1 + 100) - 1 * nI 100 = _
          rw [Int32.one_mul, pk_sub (by omega), Nat.add_sub_cancel]
      rw [if_neg (nI_ge c (by omega))]
      simp (disch := omega) only [gck, nI_clamp]
      rw [gckb (by decide), en, nI_1]
      by_cases d : x.1 = k
      · right
        rw [if_pos (by rw [d])]
        exact ⟨_, rfl, Or.inr ⟨rfl, hb.mpr ⟨x, hxm, d⟩⟩⟩
      · left
        rw [if_neg (fun w => d ((nI_eq (by omega) (by omega)).mp w))]
        refine ⟨_, rfl, ⟨rfl, fun j y hj hy => ?_⟩, c⟩
        by_cases e : j = i
        · subst e; rw [hx] at hy; cases hy; exact d
        · exact O j y (by omega) hy
    · right
      have e : i = L.length := by omega
      subst e
      refine ⟨_, if_pos (nI_le (Nat.le_refl _) (by omega)), Or.inl ⟨rfl, ?_⟩⟩
      refine Bool.eq_false_iff.mpr (fun w => ?_)
      obtain ⟨x, hx, hk2⟩ := hb.mp w
      obtain ⟨j, hj, e⟩ := List.getElem_of_mem hx
      exact O j x hj (by rw [List.getElem?_eq_getElem hj, e]) hk2) (by unfold gFuel; omega) (s0 := nI 0) ⟨rfl, fun j x hj => absurd hj (Nat.not_lt_zero _)⟩
  unfold f_X8_holdsLine
  rw [show gloop (fun t => b_X8_holdsLine_2 (nI k) t μ) gFuel (0 : Int32) = _ from h1, Option.bind_some]
  rcases h2 with ⟨e1, e2⟩ | ⟨e1, e2⟩
  · rw [e1, e2]; rfl
  · rw [e1, e2]; rfl
/-- loops that a line alone is to blame for -/
noncomputable def bof (v : Nat → Nat → Int32) (A k : Nat) : Nat → Option Nat
  | 0 => some 0
  | i + 1 => Option.bind (bof v A k i) (fun c => if bt (wset (XL v A i)) k = true then (if 0 < wE v A i then some (c + 1) else none) else some c)
theorem bof_s (k i : Nat) : bof v A k (i + 1) = Option.bind (bof v A k i) (fun c => if bt (wset (XL v A i)) k = true then (if 0 < wE v A i then some (c + 1) else none) else some c) := rfl
theorem bof_n {k i : Nat} (h : bof v A k i = none) : ∀ j, bof v A k (i + j) = none
  | 0 => h
  | j + 1 => by rw [← Nat.add_assoc, bof_s, bof_n h j]; rfl
theorem bof_le {k : Nat} : ∀ i c, bof v A k i = some c → c ≤ i
  | 0, c, h => by cases h; exact Nat.le_refl _
  | i + 1, c, h => by
    rw [bof_s] at h
    cases e : bof v A k i with
    | none => rw [e] at h; cases h
    | some d =>
      have hd := bof_le i d e
      rw [e, Option.bind_some] at h
      by_cases b1 : bt (wset (XL v A i)) k = true
      · rw [if_pos b1] at h
        by_cases b2 : 0 < wE v A i
        · rw [if_pos b2] at h; cases h; omega
        · rw [if_neg b2] at h; cases h
      · rw [if_neg b1] at h; cases h; omega
noncomputable def boN (v : Nat → Nat → Int32) (A k : Nat) : Nat := (bof v A k (nlp v A)).getD 0
theorem boN_le (C : CI v) (k : Nat) : boN v A k ≤ 20 := by
  have hn := nlp_le (A := A) C
  unfold boN
  cases e : bof v A k (nlp v A) with
  | none => exact Nat.zero_le _
  | some c => have := bof_le _ _ e; show c ≤ 20; omega
theorem boN_n {k i : Nat} (hi : i ≤ nlp v A) (h : bof v A k i = none) : boN v A k = 0 := by
  have := bof_n h (nlp v A - i)
  rw [show i + (nlp v A - i) = nlp v A by omega] at this
  unfold boN
  rw [this]; rfl
theorem c_badOnly (C : CI v) {ν : gM} (H : FD v A ν) {k : Nat} (hk : k < 32) : f_X2_badOnly (nI k) ν = some (nI (boN v A k)) := by
  have hn := nlp_le (A := A) C
  obtain ⟨q, h1, h2⟩ := gloop_rel (body := fun t => b_X2_badOnly_4 (nI k) t.1 t.2 ν) (fun i t => ∃ c, bof v A k i = some c ∧ t = (nI c, nI i)) (fun q => q = Sum.inl (nI (boN v A k)) ∨ q = Sum.inr (nI (boN v A k))) (nlp v A) (fun i t hi hR => by
    obtain ⟨c, hc, e⟩ := hR
    subst e
    show (∃ t, b_X2_badOnly_4 (nI k) (nI c) (nI i) ν = _ ∧ _) ∨ ∃ r, b_X2_badOnly_4 _ _ _ ν = _ ∧ _
    unfold b_X2_badOnly_4
    rw [H.2.1]
    by_cases d : i < nlp v A
    · obtain ⟨q, q1, q2⟩ := c_exc C H d
      have z : (0 : Int32).toInt = 0 := by decide
      rw [if_neg (nI_ge d (by omega))]
      simp (disch := omega) only [gck, nI_clamp]
      rw [(H.at d).2.1, b_test hk, q1, Option.bind_some, nI_1, nI_1]
      have hs := bof_s (v := v) (A := A) k i
      rw [hc, Option.bind_some] at hs
      by_cases b1 : bt (wset (XL v A i)) k = true
      · rw [if_pos b1] at hs
        rw [if_pos (show (if bt (wset (XL v A i)) k = true then (1 : Int32) else 0) = 1 from if_pos b1)]
        by_cases b2 : 0 < wE v A i
        · left
          rw [if_pos b2] at hs
          rw [if_pos (Int32.lt_iff_toInt_lt.mpr (by rw [q2, z]; exact b2))]
          exact ⟨_, rfl, ⟨c + 1, hs, rfl⟩, d⟩
        · right
          rw [if_neg b2] at hs
          rw [if_neg (fun w => b2 (by rw [Int32.lt_iff_toInt_lt, q2, z] at w; exact w))]
          exact ⟨_, rfl, Or.inr (by rw [boN_n (by omega) hs]; rfl)⟩
      · left
        rw [if_neg b1] at hs
        rw [if_neg (show ¬ (if bt (wset (XL v A i)) k = true then (1 : Int32) else 0) = 1 by rw [if_neg b1]; decide)]
        exact ⟨_, rfl, ⟨c, hs, rfl⟩, d⟩
    · right
      have e : i = nlp v A := by omega
      subst e
      refine ⟨_, if_pos (nI_le (Nat.le_refl _) (by omega)), Or.inl ?_⟩
      unfold boN; rw [hc]; rfl) (by unfold gFuel; omega) (s0 := (nI 0, nI 0)) ⟨0, rfl, rfl⟩
  unfold f_X2_badOnly
  rw [show gloop (fun t => b_X2_badOnly_4 (nI k) t.1 t.2 ν) gFuel ((0 : Int32), (0 : Int32)) = _ from h1, Option.bind_some]
  rcases h2 with e | e
  · rw [e]; rfl
  · rw [e]; rfl
theorem m_blame (M : MO v μ) (L0 : LL v μ) {k : Nat} (hk : k < 32) : ∃ ν, f_X8_blame (nI k) μ = some (nI (boN v (nA v) k), ν) ∧ LF μ ν := by
  have hn := nlp_le (A := nA v) M.1
  have hb := M.1.b
  obtain ⟨q, h1, ν, F2, h2⟩ := gloop_rel (body := fun t => b_X8_blame_4 (nI k) t.1 t.2.1 t.2.2) (fun i t => (∃ c, bof v (nA v) k i = some c ∧ t.1 = nI c) ∧ t.2.1 = nI i ∧ LF μ t.2.2) (fun q => ∃ ν, LF μ ν ∧ (q = Sum.inl (nI (boN v (nA v) k), ν) ∨ q = Sum.inr (nI (boN v (nA v) k), ν))) (nlp v (nA v)) (fun i t hi hR => by
    obtain ⟨x, y, ν⟩ := t
    obtain ⟨⟨c, hc, e1⟩, e2, F⟩ := hR
    have e1 : x = nI c := e1
    have e2 : y = nI i := e2
    subst e1 e2
    replace F : LF μ ν := F
    have L := L0.lf F
    show (∃ t, b_X8_blame_4 (nI k) (nI c) (nI i) ν = _ ∧ _) ∨ ∃ r, b_X8_blame_4 _ _ _ ν = _ ∧ _
    unfold b_X8_blame_4
    rw [L.2.1]
    by_cases d : i < nlp v (nA v)
    · obtain ⟨ν3, g1, g2, g3⟩ := m_isBad (M.fr F.fr) L d
      have hm := XL_m (A := nA v) M.1 d
      rw [if_neg (nI_ge d (by omega)), g1, Option.bind_some, m_holds g3 (fun x hx => by have := hm.1 x hx; omega) hm.2 hk, Option.bind_some, nI_1, nI_1]
      have hs := bof_s (v := v) (A := nA v) k i
      rw [hc, Option.bind_some] at hs
      by_cases b1 : bt (wset (XL v (nA v) i)) k = true
      · rw [if_pos b1] at hs
        rw [b1, if_neg (show ¬ b2i true = 0 by decide)]
        by_cases b2 : 0 < wE v (nA v) i
        · left
          rw [if_pos b2] at hs
          rw [decide_eq_true b2, if_neg (show ¬ b2i true = 0 by decide)]
          exact ⟨_, rfl, ⟨⟨c + 1, hs, rfl⟩, rfl, F.tr g2⟩, d⟩
        · right
          rw [if_neg b2] at hs
          rw [decide_eq_false b2, if_pos (show b2i false = 0 from rfl)]
          exact ⟨_, rfl, ν3, F.tr g2, Or.inr (by rw [boN_n (by omega) hs]; rfl)⟩
      · left
        rw [if_neg b1] at hs
        rw [Bool.eq_false_iff.mpr b1, if_pos (show b2i false = 0 from rfl)]
        exact ⟨_, rfl, ⟨⟨c, hs, rfl⟩, rfl, F.tr g2⟩, d⟩
    · right
      have e : i = nlp v (nA v) := by omega
      subst e
      refine ⟨_, if_pos (nI_le (Nat.le_refl _) (by omega)), ν, F, Or.inl ?_⟩
      unfold boN; rw [hc]; rfl) (by unfold gFuel; omega) (s0 := (nI 0, nI 0, μ)) ⟨⟨0, rfl, rfl⟩, rfl, LF.rf μ⟩
  refine ⟨ν, ?_, F2⟩
  unfold f_X8_blame
  rw [show gloop (fun t => b_X8_blame_4 (nI k) t.1 t.2.1 t.2.2) gFuel ((0 : Int32), (0 : Int32), μ) = _ from h1, Option.bind_some]
  rcases h2 with e | e
  · rw [e]; rfl
  · rw [e]; rfl
end QM

section BR
variable {v : Nat → Nat → Int32} {μ : gM} {A : Nat}
/-! bridges (30) -/
/-- each tree line is some point's line up -/
def TLn (X : TP) (M : Nat → Bool) : Prop := ∀ k, k < 32 → bt X.2.2.2.2 k = true → ∃ p, M p = true ∧ X.2.1 p = nI k
theorem tgr_L (C : CI v) (A : Nat) : ∀ r, r ≤ nP v → TLn (tgr v A r).2.1 (tgr v A r).1
  | 0, _ => fun k _ h => by
    have : bt (0 : Int32) k = true := h
    rw [b_0] at this; cases this
  | r + 1, hr => by
    have hb := C.b
    have H := tgr_L C A r (by omega)
    rw [tgr_s]
    by_cases c : (tgr v A r).1 r = true
    · rw [if_pos c]; exact H
    · rw [if_neg c]
      have hM : (tgr v A r).1 r = false := Bool.eq_false_iff.mpr c
      refine bs3_keepQ (f := fs v) (s := sn v) (A := A) (vis := tvis v r) (fun T => TLn T.2.2.2 T.1) C.g (tst_I (X := (tgr v A r).2.1) (show r < nP v by omega) hM) (fun T p k I G hk hp hq hpm ht ho => ?_) ?_ (nP v)
      · intro j hj hbj
        have hbj : bt (T.2.2.2.2.2.2.2 ||| ((1 : Int32) <<< (nI k &&& 31))) j = true := hbj
        rw [b_or, b_one k (by omega) j hj, Bool.or_eq_true, decide_eq_true_iff] at hbj
        by_cases e : j = k
        · subst e
          exact ⟨brO (fs v) (sn v) j p, uN_s, uN_s⟩
        · obtain ⟨q, q1, q2⟩ := G j hj (hbj.resolve_right e)
          have hne : q ≠ brO (fs v) (sn v) k p := fun w => by rw [w, ho] at q1; cases q1
          exact ⟨q, (uN_n hne).trans q1, (uN_n hne).trans q2⟩
      · intro j hj hbj
        obtain ⟨q, q1, q2⟩ := H j hj hbj
        have hne : q ≠ r := fun w => by rw [w, hM] at q1; cases q1
        exact ⟨q, (uN_n hne).trans q1, (uN_n hne).trans q2⟩
theorem tl_child (C : CI v) {k : Nat} (hk : k < 32) (h : bt (tbr v A) k = true) : ∃ c, c < nP v ∧ rtv v A c ≠ c ∧ ulN v A c = k := by
  obtain ⟨p, p1, p2⟩ := tgr_L C A (nP v) (Nat.le_refl _) k hk h
  have T := (tgr_all C A).2.1 p p1
  refine ⟨p, T.1, fun e => ?_, ?_⟩
  · rcases T.2.2.2.2.2 with g | ⟨g, -⟩
    · rw [g.2.1] at p2
      exact m1_ne (by omega) p2.symm
    · exact g e
  · have e : ulv v A p = nI k := p2
    unfold ulN
    rw [e, nI_clamp (by omega)]
theorem ul_inj (C : CI v) {p c : Nat} (hp : p < nP v) (hc : c < nP v) (rp : rtv v A p ≠ p) (rc : rtv v A c ≠ c) (h : ulN v A p = ulN v A c) : p = c := by
  obtain ⟨k, -, k2, -, k4, -, -, -, k8, -⟩ := up_l (A := A) C hp rp
  obtain ⟨l, -, l2, l3, l4, -, -, -, l8, -⟩ := up_l (A := A) C hc rc
  have e : k = l := k2.symm.trans (h.trans l2)
  subst e
  have hne := (C.line l3).2.2.2.2.1
  by_cases d : p = c
  · exact d
  · exfalso
    have e1 : oO v k p = c := by
      rcases k4.2 with a | a <;> rcases l4.2 with b | b
      · exact absurd (a.symm.trans b) d
      · rw [← a]; exact brO_f.trans b
      · rw [← a]; exact brO_s.trans b
      · exact absurd (a.symm.trans b) d
    have e2 : oO v k c = p := by rw [← e1]; exact (brO_brO k4 hne).2.1
    rw [e1] at k8
    rw [e2] at l8
    omega
/-- a property that holds at both ends of each line up but k -/
def UC (v : Nat → Nat → Int32) (A k : Nat) (Q : Nat → Prop) : Prop := ∀ p, p < nP v → rtv v A p ≠ p → ulN v A p ≠ k → (Q p ↔ Q (upv v A p))
theorem wyl_cl (C : CI v) {k : Nat} {Q : Nat → Prop} (hQ : UC v A k Q) : ∀ f h g, dpv v A h + dpv v A g = f → h < nP v → g < nP v → rtv v A h = rtv v A g → (∀ x, x ∈ wyl v A f h g → x.1 ≠ k) → (Q h ↔ Q g)
  | 0, h, g, hf, hh, hg, hr, _ => by
    by_cases c : h = g
    · rw [c]
    · exfalso
      obtain ⟨k, -, -, -, -, -, -, -, k8, -⟩ := up_l (A := A) C hh (deep C hh hg hr c (by omega))
      omega
  | f + 1, h, g, hf, hh, hg, hr, hx => by
    have hx : ∀ x, x ∈ (if h = g then [] else if dpv v A g ≤ dpv v A h then (ulN v A h, h) :: wyl v A f (upv v A h) g else wyl v A f h (upv v A g) ++ [(ulN v A g, upv v A g)]) → x.1 ≠ k := hx
    by_cases c : h = g
    · rw [c]
    · rw [if_neg c] at hx
      by_cases d : dpv v A g ≤ dpv v A h
      · have hn := deep C hh hg hr c d
        obtain ⟨l, l1, l2, l3, l4, l5, l6, l7, l8, l9⟩ := up_l (A := A) C hh hn
        rw [if_pos d] at hx
        have ih := wyl_cl C hQ f (upv v A h) g (by rw [l5]; omega) (by rw [l5]; exact l6) hg (by rw [l5]; exact l7.trans hr) (fun x hx2 => hx x (List.mem_cons_of_mem _ hx2))
        exact (hQ h hh hn (hx _ List.mem_cons_self)).trans ih
      · have hn := deep C hg hh hr.symm (fun w => c w.symm) (by omega)
        obtain ⟨l, l1, l2, l3, l4, l5, l6, l7, l8, l9⟩ := up_l (A := A) C hg hn
        rw [if_neg d] at hx
        have ih := wyl_cl C hQ f h (upv v A g) (by rw [l5]; omega) hh (by rw [l5]; exact l6) (by rw [l5]; exact hr.trans l7.symm) (fun x hx2 => hx x (List.mem_append_left _ hx2))
        exact ih.trans (hQ g hg hn (hx _ (List.mem_append_right _ (List.mem_singleton.mpr rfl)))).symm
theorem wyl_no (C : CI v) {c : Nat} (hc : c < nP v) (rc : rtv v A c ≠ c) : ∀ f h g, dpv v A h + dpv v A g = f → h < nP v → g < nP v → rtv v A h = rtv v A g → (dpv v A h ≤ dpv v A c ∧ h ≠ c) → (dpv v A g ≤ dpv v A c ∧ g ≠ c) → ∀ x, x ∈ wyl v A f h g → x.1 ≠ ulN v A c
  | 0, _, _, _, _, _, _, _, _, x, hx => by cases hx
  | f + 1, h, g, hf, hh, hg, hr, ph, pg, x, hx => by
    have hx : x ∈ (if h = g then [] else if dpv v A g ≤ dpv v A h then (ulN v A h, h) :: wyl v A f (upv v A h) g else wyl v A f h (upv v A g) ++ [(ulN v A g, upv v A g)]) := hx
    by_cases e : h = g
    · rw [if_pos e] at hx; cases hx
    · rw [if_neg e] at hx
      by_cases d : dpv v A g ≤ dpv v A h
      · have hn := deep C hh hg hr e d
        obtain ⟨l, l1, l2, l3, l4, l5, l6, l7, l8, l9⟩ := up_l (A := A) C hh hn
        rw [if_pos d] at hx
        rcases List.mem_cons.mp hx with w | w
        · rw [w]; exact fun q => ph.2 (ul_inj C hh hc hn rc q)
        · refine wyl_no C hc rc f (upv v A h) g (by rw [l5]; omega) (by rw [l5]; exact l6) hg (by rw [l5]; exact l7.trans hr) ⟨by rw [l5]; omega, fun q => ?_⟩ pg x w
          rw [l5] at q; rw [q] at l8; omega
      · have hn := deep C hg hh hr.symm (fun w => e w.symm) (by omega)
        obtain ⟨l, l1, l2, l3, l4, l5, l6, l7, l8, l9⟩ := up_l (A := A) C hg hn
        rw [if_neg d] at hx
        rcases List.mem_append.mp hx with w | w
        · refine wyl_no C hc rc f h (upv v A g) (by rw [l5]; omega) hh (by rw [l5]; exact l6) (by rw [l5]; exact hr.trans l7.symm) ph ⟨by rw [l5]; omega, fun q => ?_⟩ x w
          rw [l5] at q; rw [q] at l8; omega
        · rw [List.mem_singleton.mp w]; exact fun q => pg.2 (ul_inj C hg hc hn rc q)
theorem wyl_k (C : CI v) {c : Nat} (hc : c < nP v) (rc : rtv v A c ≠ c) {Q : Nat → Prop} (hQ : UC v A (ulN v A c) Q) : ∀ f h g, dpv v A h + dpv v A g = f → h < nP v → g < nP v → rtv v A h = rtv v A g → (∃ x, x ∈ wyl v A f h g ∧ x.1 = ulN v A c) → (Q h ↔ Q g) → (Q c ↔ Q (upv v A c))
  | 0, _, _, _, _, _, _, ⟨x, hx, _⟩, _ => by cases hx
  | f + 1, h, g, hf, hh, hg, hr, ⟨x, hx, xe⟩, hhg => by
    have hx : x ∈ (if h = g then [] else if dpv v A g ≤ dpv v A h then (ulN v A h, h) :: wyl v A f (upv v A h) g else wyl v A f h (upv v A g) ++ [(ulN v A g, upv v A g)]) := hx
    by_cases e : h = g
    · rw [if_pos e] at hx; cases hx
    · rw [if_neg e] at hx
      by_cases d : dpv v A g ≤ dpv v A h
      · have hn := deep C hh hg hr e d
        obtain ⟨l, l1, l2, l3, l4, l5, l6, l7, l8, l9⟩ := up_l (A := A) C hh hn
        rw [if_pos d] at hx
        by_cases q : ulN v A h = ulN v A c
        · have eh := ul_inj C hh hc hn rc q
          subst eh
          have no := wyl_no C hh hn f (upv v A h) g (by rw [l5]; omega) (by rw [l5]; exact l6) hg (by rw [l5]; exact l7.trans hr) ⟨by rw [l5]; omega, fun q => by rw [l5] at q; rw [q] at l8; omega⟩ ⟨d, fun w => e w.symm⟩
          have cl := wyl_cl C hQ f (upv v A h) g (by rw [l5]; omega) (by rw [l5]; exact l6) hg (by rw [l5]; exact l7.trans hr) no
          exact hhg.trans cl.symm
        · refine wyl_k C hc rc hQ f (upv v A h) g (by rw [l5]; omega) (by rw [l5]; exact l6) hg (by rw [l5]; exact l7.trans hr) ⟨x, ?_, xe⟩ ((hQ h hh hn q).symm.trans hhg)
          rcases List.mem_cons.mp hx with w | w
          · rw [w] at xe; exact absurd xe q
          · exact w
      · have hn := deep C hg hh hr.symm (fun w => e w.symm) (by omega)
        obtain ⟨l, l1, l2, l3, l4, l5, l6, l7, l8, l9⟩ := up_l (A := A) C hg hn
        rw [if_neg d] at hx
        by_cases q : ulN v A g = ulN v A c
        · have eh := ul_inj C hg hc hn rc q
          subst eh
          have no := wyl_no C hg hn f h (upv v A g) (by rw [l5]; omega) hh (by rw [l5]; exact l6) (by rw [l5]; exact hr.trans l7.symm) ⟨by omega, e⟩ ⟨by rw [l5]; omega, fun q => by rw [l5] at q; rw [q] at l8; omega⟩
          have cl := wyl_cl C hQ f h (upv v A g) (by rw [l5]; omega) hh (by rw [l5]; exact l6) (by rw [l5]; exact hr.trans l7.symm) no
          exact hhg.symm.trans cl
        · refine wyl_k C hc rc hQ f h (upv v A g) (by rw [l5]; omega) hh (by rw [l5]; exact l6) (by rw [l5]; exact hr.trans l7.symm) ⟨x, ?_, xe⟩ (hhg.trans (hQ g hg hn q))
          rcases List.mem_append.mp hx with w | w
          · exact w
          · rw [List.mem_singleton.mp w] at xe; exact absurd xe q
/-- descendants of a point -/
def dsc (v : Nat → Nat → Int32) (A c : Nat) : Nat → Nat → Prop
  | 0, p => p = c
  | d + 1, p => p = c ∨ dsc v A c d (upv v A p)
theorem dsc_d (C : CI v) {c : Nat} : ∀ d p, p < nP v → dpv v A p = d → dsc v A c d p → dpv v A c ≤ d
  | 0, p, _, hd, h => by
    have h : p = c := h
    rw [← h]; omega
  | d + 1, p, hp, hd, h => by
    rcases h with h | h
    · rw [← h]; omega
    · have rp : rtv v A p ≠ p := fun e => by have := dp_0 C hp e; omega
      obtain ⟨l, l1, l2, l3, l4, l5, l6, l7, l8, l9⟩ := up_l (A := A) C hp rp
      have := dsc_d C d (upv v A p) (by rw [l5]; exact l6) (by rw [l5]; omega) h
      omega
theorem dsc_u (C : CI v) {c : Nat} {p : Nat} (hp : p < nP v) (rp : rtv v A p ≠ p) (hne : p ≠ c) : dsc v A c (dpv v A p) p ↔ dsc v A c (dpv v A (upv v A p)) (upv v A p) := by
  obtain ⟨l, l1, l2, l3, l4, l5, l6, l7, l8, l9⟩ := up_l (A := A) C hp rp
  rw [l8, ← l5]
  exact ⟨fun h => h.resolve_left hne, Or.inr⟩
theorem dsc_c (c : Nat) : dsc v A c (dpv v A c) c := by
  cases dpv v A c with
  | zero => exact rfl
  | succ d => exact Or.inl rfl
noncomputable def inLp (v : Nat → Nat → Int32) (A : Nat) : Nat → Nat → Bool
  | 0, _ => false
  | i + 1, k => inLp v A i k || bt (wset (XL v A i)) k
theorem inLp_e {k : Nat} : ∀ n, inLp v A n k = true ↔ ∃ i, i < n ∧ bt (wset (XL v A i)) k = true
  | 0 => ⟨(fun h => by cases h), fun ⟨i, hi, _⟩ => absurd hi (Nat.not_lt_zero _)⟩
  | n + 1 => by
    show (inLp v A n k || bt (wset (XL v A n)) k) = true ↔ _
    rw [Bool.or_eq_true, inLp_e n]
    constructor
    · rintro (⟨i, hi, h⟩ | h)
      · exact ⟨i, by omega, h⟩
      · exact ⟨n, by omega, h⟩
    · rintro ⟨i, hi, h⟩
      by_cases e : i = n
      · subst e; exact Or.inr h
      · exact Or.inl ⟨i, by omega, h⟩
theorem inLp_m (C : CI v) {k : Nat} (hk : k < 32) : inLp v A (nlp v A) k = true ↔ ∃ m, m < nN v ∧ lpB A (tbr v A) m ∧ ∃ x, x ∈ lway v A m ∧ x.1 = k := by
  have hb := C.b
  rw [inLp_e]
  constructor
  · rintro ⟨i, hi, h⟩
    obtain ⟨a, b, -⟩ := lpk_s hi
    exact ⟨_, a, b, (wset_b hk (fun x hx => by have := (XL_m C hi).1 x hx; omega)).mp h⟩
  · rintro ⟨m, hm, hp, h⟩
    have hi := lc_in hm hp
    have hi : lc A (tbr v A) m < nlp v A := hi
    obtain ⟨a, b, c⟩ := lpk_s hi
    have e : lpk v A (lc A (tbr v A) m) = m := by
      rcases Nat.lt_trichotomy (lpk v A (lc A (tbr v A) m)) m with w | w | w
      · have := lc_in w b; omega
      · exact w
      · have := lc_in w hp; omega
    refine ⟨_, hi, (wset_b hk (fun x hx => by have := (XL_m C hi).1 x hx; omega)).mpr ?_⟩
    unfold XL
    rw [e]
    exact h
theorem br_k (C : CI v) {k : Nat} (hk : k < nN v) (hA : (nA v).testBit k = true) {S : Int32} (hS : isP v (nI k) (fs v k) S) : bt S (sn v k) = inLp v (nA v) (nlp v (nA v)) k := by
  have hb := C.b
  have hg := C.g k hk
  have T := tgr_all C (nA v)
  obtain ⟨S1, S2, S3⟩ := hS
  have npl : ∀ j, j < nN v → j ≠ k → (nA v).testBit j = true → pl v (nI k) j := fun j hj hne ha => ⟨ha, fun w => hne ((nI_eq (by omega) (by omega)).mp w)⟩
  by_cases c : inLp v (nA v) (nlp v (nA v)) k = true
  · rw [c]
    obtain ⟨m, hm, hp, x, hx, xe⟩ := (inLp_m C (by omega)).mp c
    have hgm := C.g m hm
    have hrt := (T.2.2.2.2 m hm hp.1 (T.1 _ hgm.1)).symm
    -- closed under the lines up
    have hQ : UC v (nA v) k (fun p => bt S p = true) := fun p hp rp hu => by
      obtain ⟨l, l1, l2, l3, l4, l5, l6, l7, l8, l9⟩ := up_l (A := nA v) C hp rp
      have cl := S2 l l3 (npl l l3 (fun w => hu (l2.trans w)) l4.1)
      show bt S p = true ↔ bt S (upv v (nA v) p) = true
      rw [l5]
      rcases l4.2 with a | a
      · rw [← a, show oO v l (fs v l) = sn v l from brO_f, cl]
      · rw [← a, show oO v l (sn v l) = fs v l from brO_s, cl]
    rcases List.mem_cons.mp hx with w | w
    · rw [w] at xe
      have e : m = k := xe
      subst e
      have cl := wyl_cl C hQ _ _ _ rfl hgm.2 hgm.1 hrt (fun y hy w => by
        have := (wyl_m C _ _ _ rfl hgm.2 hgm.1 hrt y hy).2.1
        rw [w, hp.2] at this; cases this)
      exact cl.mpr S1
    · have tk := (wyl_m C _ _ _ rfl hgm.2 hgm.1 hrt x w).2.1
      rw [xe] at tk
      have hmk : m ≠ k := fun e => by rw [← e, hp.2] at tk; cases tk
      obtain ⟨d, d1, d2, d3⟩ := tl_child C (by omega) tk
      obtain ⟨l, l1, l2, l3, l4, l5, l6, l7, l8, l9⟩ := up_l (A := nA v) C d1 d2
      have lk : l = k := l2.symm.trans d3
      subst lk
      have cm := S2 m hm (npl m hm hmk hp.1)
      have key := wyl_k C d1 d2 (Q := fun p => bt S p = true) (by rw [d3]; exact hQ) _ _ _ rfl hgm.2 hgm.1 hrt ⟨x, w, by rw [d3]; exact xe⟩ (by
        show bt S (sn v m) = true ↔ bt S (fs v m) = true
        rw [cm])
      have key : bt S d = true ↔ bt S (upv v (nA v) d) = true := key
      rw [l5] at key
      rcases l4.2 with a | a
      · rw [← a, show oO v l (fs v l) = sn v l from brO_f] at key
        exact key.mp S1
      · rw [← a, show oO v l (sn v l) = fs v l from brO_s] at key
        exact key.mpr S1
  · rw [Bool.eq_false_iff.mpr c]
    have nl : ∀ m, m < nN v → lpB (nA v) (tbr v (nA v)) m → ∀ x, x ∈ lway v (nA v) m → x.1 ≠ k := fun m hm hp x hx e => c ((inLp_m C (by omega)).mpr ⟨m, hm, hp, x, hx, e⟩)
    have tk : bt (tbr v (nA v)) k = true := by
      cases e : bt (tbr v (nA v)) k with
      | true => rfl
      | false => exact absurd rfl (nl k hk ⟨hA, e⟩ (k, fs v k) List.mem_cons_self)
    obtain ⟨d, d1, d2, d3⟩ := tl_child C (by omega) tk
    obtain ⟨l, l1, l2, l3, l4, l5, l6, l7, l8, l9⟩ := up_l (A := nA v) C d1 d2
    have lk : l = k := l2.symm.trans d3
    subst lk
    obtain ⟨D, hD⟩ : ∃ D : Nat → Prop, D = fun p => dsc v (nA v) d (dpv v (nA v) p) p := ⟨_, rfl⟩
    have Dd : D d := by rw [hD]; exact dsc_c d
    have Du : ¬ D (oO v l d) := fun w => by
      rw [hD] at w
      have := dsc_d C _ _ l6 rfl w
      omega
    have uc : UC v (nA v) l D := fun p hp rp hu => by
      rw [hD]
      exact dsc_u C hp rp (fun w => hu (by rw [w]; exact l2))
    have cl : ∀ j, j < nN v → pl v (nI l) j → (D (fs v j) ↔ D (sn v j)) := fun j hj hpl => by
      have hjk : j ≠ l := fun w => hpl.2 (by rw [w])
      have hgj := C.g j hj
      have hrt := (T.2.2.2.2 j hj hpl.1 (T.1 _ hgj.1)).symm
      cases e : bt (tbr v (nA v)) j with
      | true =>
        obtain ⟨p, p1, p2, p3⟩ := tl_child C (by omega) e
        obtain ⟨q, q1, q2, q3, q4, q5, q6, q7, q8, q9⟩ := up_l (A := nA v) C p1 p2
        have qj : q = j := q2.symm.trans p3
        subst qj
        have := uc p p1 p2 (fun w => hjk (p3.symm.trans w))
        rw [q5] at this
        rcases q4.2 with a | a
        · rw [← a, show oO v q (fs v q) = sn v q from brO_f] at this
          exact this
        · rw [← a, show oO v q (sn v q) = fs v q from brO_s] at this
          exact this.symm
      | false =>
        exact (wyl_cl C uc _ _ _ rfl hgj.2 hgj.1 hrt (fun x hx => nl j hj ⟨hpl.1, e⟩ x (List.mem_cons_of_mem _ hx))).symm
    refine Bool.eq_false_iff.mpr (fun w => ?_)
    rcases l4.2 with a | a
    · have e2 : oO v l d = sn v l := by rw [← a]; exact brO_f
      rw [e2] at Du
      exact Du (S3 D cl (by rw [a]; exact Dd) _ (by omega) w)
    · have e2 : oO v l d = fs v l := by rw [← a]; exact brO_s
      rw [e2] at Du
      exact S3 (fun p => ¬ D p) (fun j hj hpl => not_congr (cl j hj hpl)) Du _ (by omega) w (by rw [a]; exact Dd)
noncomputable def cbr (v : Nat → Nat → Int32) (A : Nat) : Nat → Int32
  | 0 => nI A
  | i + 1 => cbr v A i &&& (wset (XL v A i) ^^^ (-1 : Int32))
theorem cbr_b (hA : A < 2 ^ 31) {b : Nat} (hb : b < 32) : ∀ n, bt (cbr v A n) b = (A.testBit b && !inLp v A n b)
  | 0 => by
    show bt (nI A) b = _
    rw [b_nI (by omega) hb]; exact (Bool.and_true _).symm
  | n + 1 => by
    show bt (cbr v A n &&& (wset (XL v A n) ^^^ (-1 : Int32))) b = (A.testBit b && !(inLp v A n b || bt (wset (XL v A n)) b))
    rw [b_and, cbr_b hA hb n, b_xor, b_m1 b hb, Bool.xor_true, Bool.not_or, Bool.and_assoc]
noncomputable def brs (v : Nat → Nat → Int32) (A : Nat) : Nat → Int32
  | 0 => 0
  | k + 1 => if A.testBit k = true ∧ inLp v A (nlp v A) k = false then brs v A k ||| ((1 : Int32) <<< (nI k &&& 31)) else brs v A k
theorem brs_b {b : Nat} (hb : b < 32) : ∀ n, n ≤ 32 → bt (brs v A n) b = (decide (b < n) && (A.testBit b && !inLp v A (nlp v A) b))
  | 0, _ => by rw [show brs v A 0 = 0 from rfl, b_0]; simp
  | n + 1, hn => by
    show bt (if A.testBit n = true ∧ inLp v A (nlp v A) n = false then brs v A n ||| ((1 : Int32) <<< (nI n &&& 31)) else brs v A n) b = _
    have ih := brs_b hb n (by omega)
    by_cases c : A.testBit n = true ∧ inLp v A (nlp v A) n = false
    · rw [if_pos c, b_or, ih, b_one n (by omega) b hb]
      by_cases e : b = n
      · subst e
        rw [c.1, c.2]; simp
      · rw [decide_eq_false e, Bool.or_false, show decide (b < n + 1) = decide (b < n) from decide_eq_decide.mpr (by omega)]
    · rw [if_neg c, ih]
      by_cases e : b = n
      · subst e
        have : (A.testBit b && !inLp v A (nlp v A) b) = false := by
          refine Bool.eq_false_iff.mpr (fun w => c ?_)
          rw [Bool.and_eq_true, Bool.not_eq_true'] at w
          exact w
        rw [this, Bool.and_false, Bool.and_false]
      · rw [show decide (b < n + 1) = decide (b < n) from decide_eq_decide.mpr (by omega)]
end BR

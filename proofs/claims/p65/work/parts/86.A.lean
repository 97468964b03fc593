/-! trees and loops: how many lines, no line twice, one after the other -/
section TRE
variable {v : Nat → Nat → Int32} {A : Nat}
theorem pcn_add {S T : Int32} {k : Nat} (h0 : bt S k = false) (hT : ∀ i, i < 32 → bt T i = (bt S i || decide (i = k))) : ∀ n, n ≤ 32 → pcn T n = pcn S n + (if k < n then 1 else 0)
  | 0, _ => rfl
  | n + 1, hn => by
    show pcn T n + (if bt T n = true then 1 else 0) = (pcn S n + (if bt S n = true then 1 else 0)) + (if k < n + 1 then 1 else 0)
    rw [pcn_add h0 hT n (by omega), hT n (by omega)]
    by_cases c : n = k
    · subst c
      rw [h0, decide_eq_true rfl, if_neg (Nat.lt_irrefl n), if_pos (Nat.lt_succ_self n)]
      rfl
    · rw [decide_eq_false c, Bool.or_false]
      by_cases d : k < n
      · rw [if_pos d, if_pos (by omega : k < n + 1)]; omega
      · rw [if_neg d, if_neg (by omega : ¬ k < n + 1), Nat.add_zero, Nat.add_zero]
/-- the tree lines of the points below n -/
noncomputable def tset (v : Nat → Nat → Int32) (A : Nat) : Nat → Int32
  | 0 => 0
  | n + 1 => if rtv v A n = n then tset v A n else tset v A n ||| ((1 : Int32) <<< (nI (ulN v A n) &&& 31))
theorem tset_b (C : CI v) {k : Nat} (hk : k < 32) : ∀ n, n ≤ nP v → (bt (tset v A n) k = true ↔ ∃ p, p < n ∧ rtv v A p ≠ p ∧ ulN v A p = k)
  | 0, _ => ⟨(fun h => by rw [show tset v A 0 = 0 from rfl, b_0] at h; cases h), fun ⟨p, hp, _⟩ => absurd hp (Nat.not_lt_zero p)⟩
  | n + 1, hn => by
    have ih := tset_b C hk n (by omega)
    have hb := C.b
    show bt (if rtv v A n = n then tset v A n else tset v A n ||| ((1 : Int32) <<< (nI (ulN v A n) &&& 31))) k = true ↔ _
    by_cases c : rtv v A n = n
    · rw [if_pos c, ih]
      constructor
      · rintro ⟨p, h1, h2, h3⟩; exact ⟨p, by omega, h2, h3⟩
      · rintro ⟨p, h1, h2, h3⟩
        have : p ≠ n := fun e => h2 (by rw [e]; exact c)
        exact ⟨p, by omega, h2, h3⟩
    · obtain ⟨l, l1, l2, l3, -⟩ := up_l (A := A) C (show n < nP v by omega) c
      rw [if_neg c, b_or, Bool.or_eq_true, ih, l2, b_one l (by omega) k hk, decide_eq_true_iff]
      constructor
      · rintro (⟨p, h1, h2, h3⟩ | h)
        · exact ⟨p, by omega, h2, h3⟩
        · exact ⟨n, by omega, c, l2.trans h.symm⟩
      · rintro ⟨p, h1, h2, h3⟩
        by_cases e : p = n
        · subst e; right; rw [← h3, l2]
        · left; exact ⟨p, by omega, h2, h3⟩
theorem tset_n (C : CI v) : ∀ n, n ≤ nP v → pcn (tset v A n) 20 + prt (rtv v A) n = n
  | 0, _ => by
    show pcn 0 20 + 0 = 0
    have : pcn (0 : Int32) 20 = 0 := by decide +kernel
    rw [this]
  | n + 1, hn => by
    have ih := tset_n C n (by omega)
    have hb := C.b
    show pcn (if rtv v A n = n then tset v A n else tset v A n ||| ((1 : Int32) <<< (nI (ulN v A n) &&& 31))) 20 + (if rtv v A n = n then prt (rtv v A) n + 1 else prt (rtv v A) n) = n + 1
    by_cases c : rtv v A n = n
    · rw [if_pos c, if_pos c]; omega
    · obtain ⟨l, l1, l2, l3, -⟩ := up_l (A := A) C (show n < nP v by omega) c
      rw [if_neg c, if_neg c, l2, pcn_add (S := tset v A n) (k := l) ?_ (fun i hi => by rw [b_or, b_one l (by omega) i hi]) 20 (by decide), if_pos (by omega : l < 20)]
      · omega
      · refine Bool.eq_false_iff.mpr (fun w => ?_)
        obtain ⟨p, h1, h2, h3⟩ := (tset_b C (by omega) n (by omega)).mp w
        have := ul_inj C (p := p) (c := n) (by omega) (by omega) h2 c (h3.trans l2.symm)
        omega
theorem tset_all (C : CI v) : tset v A (nP v) = tbr v A := by
  refine b_ext (fun k hk => ?_)
  refine Bool.eq_iff_iff.mpr ?_
  rw [tset_b C hk _ (Nat.le_refl _)]
  constructor
  · rintro ⟨p, h1, h2, h3⟩
    obtain ⟨l, l1, l2, l3, l4, l5, l6, l7, l8, l9⟩ := up_l (A := A) C h1 h2
    rw [← h3, l2]; exact l9
  · intro h
    obtain ⟨c, h1, h2, h3⟩ := tl_child C hk h
    exact ⟨c, h1, h2, h3⟩
theorem tl_act (C : CI v) {k : Nat} (hk : k < 32) (h : bt (tbr v A) k = true) : k < nN v ∧ A.testBit k = true := by
  obtain ⟨c, h1, h2, h3⟩ := tl_child C hk h
  obtain ⟨l, l1, l2, l3, l4, -⟩ := up_l (A := A) C h1 h2
  have : l = k := l2.symm.trans h3
  subst this
  exact ⟨l3, l4.1⟩
theorem tree_n (C : CI v) : pcn (tbr v A) 20 + prt (rtv v A) (nP v) = nP v := by
  have := tset_n (A := A) C (nP v) (Nat.le_refl _)
  rwa [tset_all C] at this
theorem lc_tree (C : CI v) : ∀ k, k ≤ 32 → lc A (tbr v A) k + pcn (tbr v A) k = lc A 0 k
  | 0, _ => rfl
  | k + 1, hk => by
    have ih := lc_tree C k (by omega)
    show (if lpB A (tbr v A) k then lc A (tbr v A) k + 1 else lc A (tbr v A) k) + (pcn (tbr v A) k + (if bt (tbr v A) k = true then 1 else 0)) = if lpB A 0 k then lc A 0 k + 1 else lc A 0 k
    have z : lpB A 0 k ↔ A.testBit k = true := ⟨fun h => h.1, fun h => ⟨h, b_0 k⟩⟩
    by_cases c : bt (tbr v A) k = true
    · have h2 := (tl_act C (by omega) c).2
      rw [if_neg (fun w : lpB A (tbr v A) k => by have := w.2; rw [c] at this; cases this), if_pos c, if_pos (z.mpr h2)]; omega
    · by_cases d : A.testBit k = true
      · rw [if_pos (show lpB A (tbr v A) k from ⟨d, Bool.eq_false_iff.mpr c⟩), if_neg c, if_pos (z.mpr d)]; omega
      · rw [if_neg (fun w : lpB A (tbr v A) k => d w.1), if_neg c, if_neg (fun w => d (z.mp w))]; omega
theorem pcn_N (C : CI v) : ∀ n, nN v + n ≤ 32 → pcn (tbr v A) (nN v + n) = pcn (tbr v A) (nN v)
  | 0, _ => rfl
  | n + 1, hn => by
    show pcn (tbr v A) (nN v + n) + (if bt (tbr v A) (nN v + n) = true then 1 else 0) = _
    rw [if_neg (fun w => by have := (tl_act C (by omega) w).1; omega), pcn_N C n (by omega), Nat.add_zero]
theorem nlp_t (C : CI v) : nlp v A + pcn (tbr v A) 20 = lc A 0 (nN v) := by
  have hb := C.b
  have h := pcn_N (A := A) C (20 - nN v) (by omega)
  rw [show nN v + (20 - nN v) = 20 by omega] at h
  rw [h]
  exact lc_tree C (nN v) (by omega)
/-- no line twice -/
theorem wyl_p (C : CI v) : ∀ f h g, dpv v A h + dpv v A g = f → h < nP v → g < nP v → rtv v A h = rtv v A g → ∀ x, x ∈ wyl v A f h g → ∃ p, p < nP v ∧ rtv v A p ≠ p ∧ x.1 = ulN v A p ∧ (p = h ∨ p = g ∨ dpv v A p < max (dpv v A h) (dpv v A g))
  | 0, h, g, _, _, _, _, x, hx => by cases hx
  | f + 1, h, g, hf, hh, hg, hr, x, hx => by
    have hx : x ∈ (if h = g then [] else if dpv v A g ≤ dpv v A h then (ulN v A h, h) :: wyl v A f (upv v A h) g else wyl v A f h (upv v A g) ++ [(ulN v A g, upv v A g)]) := hx
    by_cases c : h = g
    · rw [if_pos c] at hx; cases hx
    · rw [if_neg c] at hx
      by_cases d : dpv v A g ≤ dpv v A h
      · rw [if_pos d] at hx
        have hd := deep C hh hg hr c d
        obtain ⟨l, l1, l2, l3, l4, l5, l6, l7, l8, l9⟩ := up_l (A := A) C hh hd
        rw [l5] at hx
        rcases List.mem_cons.mp hx with e | e
        · exact ⟨h, hh, hd, by rw [e], Or.inl rfl⟩
        · obtain ⟨p, p1, p2, p3, p4⟩ := wyl_p C f _ _ (by omega) l6 hg (l7.trans hr) x e
          refine ⟨p, p1, p2, p3, ?_⟩
          rcases p4 with e | e | e
          · right; right; rw [e]; omega
          · exact Or.inr (Or.inl e)
          · right; right; omega
      · rw [if_neg d] at hx
        have hd := deep C hg hh hr.symm (fun w => c w.symm) (by omega)
        obtain ⟨l, l1, l2, l3, l4, l5, l6, l7, l8, l9⟩ := up_l (A := A) C hg hd
        rw [l5] at hx
        rcases List.mem_append.mp hx with e | e
        · obtain ⟨p, p1, p2, p3, p4⟩ := wyl_p C f _ _ (by omega) hh l6 (hr.trans l7.symm) x e
          refine ⟨p, p1, p2, p3, ?_⟩
          rcases p4 with e | e | e
          · exact Or.inl e
          · right; right; rw [e]; omega
          · right; right; omega
        · exact ⟨g, hg, hd, by rw [List.mem_singleton.mp e], Or.inr (Or.inl rfl)⟩
theorem wyl_nd (C : CI v) : ∀ f h g, dpv v A h + dpv v A g = f → h < nP v → g < nP v → rtv v A h = rtv v A g → (wyl v A f h g).Pairwise (fun x y => x.1 ≠ y.1)
  | 0, h, g, _, _, _, _ => List.Pairwise.nil
  | f + 1, h, g, hf, hh, hg, hr => by
    show (if h = g then [] else if dpv v A g ≤ dpv v A h then (ulN v A h, h) :: wyl v A f (upv v A h) g else wyl v A f h (upv v A g) ++ [(ulN v A g, upv v A g)]).Pairwise (fun x y => x.1 ≠ y.1)
    by_cases c : h = g
    · rw [if_pos c]; exact List.Pairwise.nil
    · rw [if_neg c]
      by_cases d : dpv v A g ≤ dpv v A h
      · rw [if_pos d]
        have hd := deep C hh hg hr c d
        obtain ⟨l, l1, l2, l3, l4, l5, l6, l7, l8, l9⟩ := up_l (A := A) C hh hd
        rw [l5]
        refine List.pairwise_cons.mpr ⟨fun y hy w => ?_, wyl_nd C f _ _ (by omega) l6 hg (l7.trans hr)⟩
        obtain ⟨p, p1, p2, p3, p4⟩ := wyl_p C f _ _ (by omega) l6 hg (l7.trans hr) y hy
        have e := ul_inj C hh p1 hd p2 (w.trans p3)
        rcases p4 with q | q | q
        · rw [← e] at q; rw [← q] at l8; omega
        · exact c (e.trans q)
        · rw [← e] at q; omega
      · rw [if_neg d]
        have hd := deep C hg hh hr.symm (fun w => c w.symm) (by omega)
        obtain ⟨l, l1, l2, l3, l4, l5, l6, l7, l8, l9⟩ := up_l (A := A) C hg hd
        rw [l5]
        refine List.pairwise_append.mpr ⟨wyl_nd C f _ _ (by omega) hh l6 (hr.trans l7.symm), List.pairwise_singleton _ _, fun x hx y hy w => ?_⟩
        rw [List.mem_singleton.mp hy] at w
        obtain ⟨p, p1, p2, p3, p4⟩ := wyl_p C f _ _ (by omega) hh l6 (hr.trans l7.symm) x hx
        have e := ul_inj C hg p1 hd p2 (w.symm.trans p3)
        rcases p4 with q | q | q
        · exact c ((e.trans q).symm)
        · rw [← e] at q; rw [← q] at l8; omega
        · rw [← e] at q; omega
/-- one after the other -/
def wch (v : Nat → Nat → Int32) : Nat → List (Nat × Nat) → Nat → Prop
  | h, [], g => h = g
  | h, x :: L, g => x.2 = h ∧ (fs v x.1 = h ∨ sn v x.1 = h) ∧ wch v (oO v x.1 h) L g
theorem wch_app {l m g : Nat} (hm : fs v l = m ∨ sn v l = m) (hg : oO v l m = g) : ∀ (L : List (Nat × Nat)) h, wch v h L m → wch v h (L ++ [(l, m)]) g
  | [], h, e => by
    have e : h = m := e
    rw [e]
    exact ⟨rfl, hm, hg⟩
  | x :: L, h, ⟨a, b, c⟩ => ⟨a, b, wch_app hm hg L _ c⟩
theorem wyl_ch (C : CI v) : ∀ f h g, dpv v A h + dpv v A g = f → h < nP v → g < nP v → rtv v A h = rtv v A g → wch v h (wyl v A f h g) g
  | 0, h, g, hf, hh, hg, hr => by
    show h = g
    by_cases c : h = g
    · exact c
    · have hd := deep C hh hg hr c (by omega)
      obtain ⟨l, l1, l2, l3, l4, l5, l6, l7, l8, l9⟩ := up_l (A := A) C hh hd
      omega
  | f + 1, h, g, hf, hh, hg, hr => by
    show wch v h (if h = g then [] else if dpv v A g ≤ dpv v A h then (ulN v A h, h) :: wyl v A f (upv v A h) g else wyl v A f h (upv v A g) ++ [(ulN v A g, upv v A g)]) g
    by_cases c : h = g
    · rw [if_pos c]; exact c
    · rw [if_neg c]
      by_cases d : dpv v A g ≤ dpv v A h
      · rw [if_pos d]
        have hd := deep C hh hg hr c d
        obtain ⟨l, l1, l2, l3, l4, l5, l6, l7, l8, l9⟩ := up_l (A := A) C hh hd
        rw [l2, l5]
        exact ⟨rfl, l4.2, wyl_ch C f (oO v l h) g (by omega) l6 hg (l7.trans hr)⟩
      · rw [if_neg d]
        have hd := deep C hg hh hr.symm (fun w => c w.symm) (by omega)
        obtain ⟨l, l1, l2, l3, l4, l5, l6, l7, l8, l9⟩ := up_l (A := A) C hg hd
        rw [l2, l5]
        obtain ⟨b1, b2, -⟩ := brO_brO l4 (C.line l3).2.2.2.2.1
        exact wch_app b1.2 b2 _ _ (wyl_ch C f h (oO v l g) (by omega) hh l6 (hr.trans l7.symm))
theorem lway_ch (C : CI v) {k : Nat} (hk : k < nN v) (hA : A.testBit k = true) : wch v (fs v k) (lway v A k) (fs v k) := by
  have T := tgr_all C A
  have hg := C.g k hk
  refine ⟨rfl, Or.inl rfl, ?_⟩
  rw [show oO v k (fs v k) = sn v k from brO_f]
  exact wyl_ch C _ _ _ rfl hg.2 hg.1 (T.2.2.2.2 k hk hA (T.1 _ hg.1)).symm
theorem lway_nd (C : CI v) {k : Nat} (hk : k < nN v) (h : lpB A (tbr v A) k) : (lway v A k).Pairwise (fun x y => x.1 ≠ y.1) ∧ ∀ x, x ∈ (lway v A k).tail → bt (tbr v A) x.1 = true := by
  have T := tgr_all C A
  have hg := C.g k hk
  have hr := (T.2.2.2.2 k hk h.1 (T.1 _ hg.1)).symm
  have m := wyl_m C _ _ _ rfl hg.2 hg.1 hr
  refine ⟨List.pairwise_cons.mpr ⟨fun y hy w => ?_, wyl_nd C _ _ _ rfl hg.2 hg.1 hr⟩, fun x hx => (m x hx).2.1⟩
  have := (m y hy).2.1
  rw [← show k = y.1 from w, h.2] at this; cases this
theorem lway_le (C : CI v) {k : Nat} (hk : k < nN v) (hA : A.testBit k = true) : (lway v A k).length ≤ nP v := by
  have hb := C.b
  have G : ∀ n h g U R, WI v A k h g U R → nP v ≤ U.length + R.length + n → (lway v A k).length ≤ nP v := by
    intro n
    induction n with
    | zero => intro h g U R W hn; have := WI_room W; omega
    | succ n ih =>
      intro h g U R W hn
      by_cases c : h = g
      · subst c
        have := WI_room W
        rw [← WI_e W, List.length_cons, List.length_append, List.length_reverse]
        omega
      · by_cases d : dpv v A g ≤ dpv v A h
        · obtain ⟨l, l1, l2, l3, l4, l5, W2⟩ := WI_up C W c d
          exact ih _ _ _ _ W2 (by rw [List.length_append, List.length_singleton]; omega)
        · obtain ⟨l, l1, l2, l3, l4, l5, W2⟩ := WI_dn C W c d
          exact ih _ _ _ _ W2 (by rw [List.length_append, List.length_singleton]; omega)
  exact G (nP v) _ _ _ _ (WI_0 C hk hA) (by omega)
theorem lpk_lc {m : Nat} (hm : m < nN v) (hp : lpB A (tbr v A) m) : lc A (tbr v A) m < nlp v A ∧ lpk v A (lc A (tbr v A) m) = m := by
  have hi := lc_in hm hp
  have hi : lc A (tbr v A) m < nlp v A := hi
  obtain ⟨a, b, c⟩ := lpk_s hi
  refine ⟨hi, ?_⟩
  rcases Nat.lt_trichotomy (lpk v A (lc A (tbr v A) m)) m with w | w | w
  · have := lc_in w b; omega
  · exact w
  · have := lc_in w hp; omega
end TRE

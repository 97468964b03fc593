section LW
variable {v : Nat → Nat → Int32} {A : Nat}
/-! the way of a loop -/
def dpv (v : Nat → Nat → Int32) (A : Nat) : Nat → Nat := (tgr v A (nP v)).2.1.2.2.2.1
def ulv (v : Nat → Nat → Int32) (A : Nat) : Nat → Int32 := (tgr v A (nP v)).2.1.2.1
def upv (v : Nat → Nat → Int32) (A : Nat) : Nat → Nat := (tgr v A (nP v)).2.1.2.2.1
def ulN (v : Nat → Nat → Int32) (A p : Nat) : Nat := (ulv v A p).toNatClampNeg
def wyl (v : Nat → Nat → Int32) (A : Nat) : Nat → Nat → Nat → List (Nat × Nat)
  | 0, _, _ => []
  | f + 1, h, g => if h = g then [] else if dpv v A g ≤ dpv v A h then (ulN v A h, h) :: wyl v A f (upv v A h) g else wyl v A f h (upv v A g) ++ [(ulN v A g, upv v A g)]
def lway (v : Nat → Nat → Int32) (A k : Nat) : List (Nat × Nat) := (k, fs v k) :: wyl v A (dpv v A (sn v k) + dpv v A (fs v k)) (sn v k) (fs v k)
/-- a point with a depth has a line up -/
theorem up_l (C : CI v) {p : Nat} (hp : p < nP v) (h : rtv v A p ≠ p) : ∃ k, ulv v A p = nI k ∧ ulN v A p = k ∧ k < nN v ∧ brT (fs v) (sn v) A k p ∧ upv v A p = oO v k p ∧ oO v k p < nP v ∧ rtv v A (oO v k p) = rtv v A p ∧ dpv v A p = dpv v A (oO v k p) + 1 ∧ bt (tbr v A) k = true := by
  have T := tgr_all C A
  have hb := C.b
  rcases (T.2.1 p (T.1 p hp)).2.2.2.2.2 with g | ⟨g, l, l1, l2, l3, l4, l5, l6, l7, l8⟩
  · exact absurd g.1 h
  · refine ⟨l, l2, ?_, l1, l3, l4, brO_lt (C.g l l1), l6, l7, l8⟩
    unfold ulN
    rw [show ulv v A p = nI l from l2, nI_clamp (by omega)]
theorem dp_0 (C : CI v) {p : Nat} (hp : p < nP v) (h : rtv v A p = p) : dpv v A p = 0 := by
  have T := tgr_all C A
  rcases (T.2.1 p (T.1 p hp)).2.2.2.2.2 with g | ⟨g, -⟩
  · exact g.2.2
  · exact absurd h g
theorem rt_idem (C : CI v) {p : Nat} (hp : p < nP v) : rtv v A (rtv v A p) = rtv v A p := by
  have T := tgr_all C A
  exact (T.2.1 p (T.1 p hp)).2.2.2.2.1
/-- of two points of a tree that differ, the deeper one has a line up -/
theorem deep (C : CI v) {h g : Nat} (hh : h < nP v) (hg : g < nP v) (hr : rtv v A h = rtv v A g) (hne : h ≠ g) (hd : dpv v A g ≤ dpv v A h) : rtv v A h ≠ h := fun e => by
  have h0 := dp_0 C hh e
  by_cases eg : rtv v A g = g
  · exact hne (e.symm.trans (hr.trans eg))
  · obtain ⟨k, -, -, -, -, -, -, -, hd2, -⟩ := up_l (A := A) C hg eg
    omega
/-- while the two ends climb -/
def WI (v : Nat → Nat → Int32) (A k h g : Nat) (U R : List (Nat × Nat)) : Prop := h < nP v ∧ g < nP v ∧ rtv v A h = rtv v A g ∧ (k, fs v k) :: (U ++ (wyl v A (dpv v A h + dpv v A g) h g ++ R.reverse)) = lway v A k ∧
  (∃ V : Nat → Bool, cntB V (nP v) = U.length + R.length ∧ ∀ p, V p = true → dpv v A h ≤ dpv v A p ∧ dpv v A g ≤ dpv v A p ∧ p ≠ h ∧ p ≠ g) ∧
  (∀ i x, R[i]? = some x → (∀ y, 0 < i → R[i - 1]? = some y → oO v x.1 x.2 = y.2) ∧ (i + 1 = R.length → x.2 = g))
theorem WI_room {k h g : Nat} {U R : List (Nat × Nat)} (W : WI v A k h g U R) : U.length + R.length + 1 ≤ nP v := by
  obtain ⟨hh, -, -, -, ⟨V, hV, hp⟩, -⟩ := W
  have hf : V h = false := by
    cases c : V h with
    | false => rfl
    | true => exact absurd rfl (hp h c).2.2.1
  have := cntB_up hf hh
  have h2 := cntB_le (uN V h true) (nP v)
  omega
theorem WI_0 (C : CI v) {k : Nat} (hk : k < nN v) (hA : A.testBit k = true) : WI v A k (sn v k) (fs v k) [] [] := by
  have T := tgr_all C A
  have hg := C.g k hk
  refine ⟨hg.2, hg.1, (T.2.2.2.2 k hk hA (T.1 _ hg.1)).symm, ?_, ⟨fun _ => false, cntB_0 _, fun p h => by cases h⟩, fun i x h => by cases h⟩
  rw [List.nil_append, List.reverse_nil, List.append_nil]; rfl
theorem WI_up (C : CI v) {k h g : Nat} {U R : List (Nat × Nat)} (W : WI v A k h g U R) (hne : h ≠ g) (hd : dpv v A g ≤ dpv v A h) : ∃ l, ulv v A h = nI l ∧ l < nN v ∧ brT (fs v) (sn v) A l h ∧ upv v A h = oO v l h ∧ bt (tbr v A) l = true ∧ WI v A k (oO v l h) g (U ++ [(l, h)]) R := by
  obtain ⟨hh, hg, hr, hw, ⟨V, hV, hp⟩, hc⟩ := W
  obtain ⟨l, l1, l2, l3, l4, l5, l6, l7, l8, l9⟩ := up_l (A := A) C hh (deep C hh hg hr hne hd)
  refine ⟨l, l1, l3, l4, l5, l9, l6, hg, l7.trans hr, ?_, ⟨uN V h true, ?_, fun p hpV => ?_⟩, hc⟩
  · rw [← hw, l8, show dpv v A (oO v l h) + 1 + dpv v A g = (dpv v A (oO v l h) + dpv v A g) + 1 by omega]
    show _ = (k, fs v k) :: (U ++ ((if h = g then [] else if dpv v A g ≤ dpv v A h then (ulN v A h, h) :: wyl v A (dpv v A (oO v l h) + dpv v A g) (upv v A h) g else _) ++ R.reverse))
    rw [if_neg hne, if_pos hd, l2, l5]
    simp
  · have hf : V h = false := by
      cases c : V h with
      | false => rfl
      | true => exact absurd rfl (hp h c).2.2.1
    rw [cntB_up hf hh, hV]
    simp
    omega
  · by_cases e : p = h
    · subst e
      exact ⟨by omega, hd, fun w => by rw [← w] at l8; omega, hne⟩
    · rw [uN_n e] at hpV
      have := hp p hpV
      exact ⟨by omega, this.2.1, fun w => by rw [w] at this; omega, this.2.2.2⟩
theorem WI_dn (C : CI v) {k h g : Nat} {U R : List (Nat × Nat)} (W : WI v A k h g U R) (hne : h ≠ g) (hd : ¬ dpv v A g ≤ dpv v A h) : ∃ l, ulv v A g = nI l ∧ l < nN v ∧ brT (fs v) (sn v) A l g ∧ upv v A g = oO v l g ∧ bt (tbr v A) l = true ∧ WI v A k h (oO v l g) U (R ++ [(l, oO v l g)]) := by
  obtain ⟨hh, hg, hr, hw, ⟨V, hV, hp⟩, hc⟩ := W
  obtain ⟨l, l1, l2, l3, l4, l5, l6, l7, l8, l9⟩ := up_l (A := A) C hg (deep C hg hh hr.symm (fun w => hne w.symm) (by omega))
  have hbb := brO_brO l4 (C.line l3).2.2.2.2.1
  refine ⟨l, l1, l3, l4, l5, l9, hh, l6, hr.trans l7.symm, ?_, ⟨uN V g true, ?_, fun p hpV => ?_⟩, fun i x hx => ?_⟩
  · rw [← hw, l8, show dpv v A h + (dpv v A (oO v l g) + 1) = (dpv v A h + dpv v A (oO v l g)) + 1 by omega]
    show _ = (k, fs v k) :: (U ++ ((if h = g then [] else if dpv v A g ≤ dpv v A h then _ else wyl v A (dpv v A h + dpv v A (oO v l g)) h (upv v A g) ++ [(ulN v A g, upv v A g)]) ++ R.reverse))
    rw [if_neg hne, if_neg hd, l2, l5]
    simp
  · have hf : V g = false := by
      cases c : V g with
      | false => rfl
      | true => exact absurd rfl (hp g c).2.2.2
    rw [cntB_up hf hg, hV]
    simp
    omega
  · by_cases e : p = g
    · subst e
      exact ⟨by omega, by omega, fun w => hne w.symm, fun w => by rw [← w] at l8; omega⟩
    · rw [uN_n e] at hpV
      have := hp p hpV
      exact ⟨this.1, by omega, this.2.2.1, fun w => by rw [w] at this; omega⟩
  · rw [List.length_append, List.length_singleton]
    by_cases c : i < R.length
    · rw [List.getElem?_append_left c] at hx
      refine ⟨fun y h0 hy => ?_, fun h => by omega⟩
      rw [List.getElem?_append_left (by omega)] at hy
      exact (hc i x hx).1 y h0 hy
    · have hi : i = R.length := by
        have := List.getElem?_eq_some_iff.mp hx
        obtain ⟨h1, -⟩ := this
        rw [List.length_append, List.length_singleton] at h1
        omega
      subst hi
      rw [List.getElem?_append_right (Nat.le_refl _), Nat.sub_self] at hx
      have hx2 : x = (l, oO v l g) := by
        have : some (l, oO v l g) = some x := hx
        cases this; rfl
      subst hx2
      refine ⟨fun y h0 hy => ?_, fun _ => rfl⟩
      rw [List.getElem?_append_left (by omega)] at hy
      have := (hc (R.length - 1) y hy).2 (by omega)
      rw [this]
      exact hbb.2.1
/-- where they meet -/
theorem WI_e {k h : Nat} {U R : List (Nat × Nat)} (W : WI v A k h h U R) : (k, fs v k) :: (U ++ R.reverse) = lway v A k := by
  obtain ⟨-, -, -, hw, -, -⟩ := W
  rw [← hw]
  have : wyl v A (dpv v A h + dpv v A h) h h = [] := by
    cases dpv v A h + dpv v A h with
    | zero => rfl
    | succ f => exact if_pos rfl
  rw [this, List.nil_append]
def enc (v : Nat → Nat → Int32) (x : Nat × Nat) : Int32 := if fs v x.1 = x.2 then nI x.1 else nI (x.1 + 100)
def AW (v : Nat → Nat → Int32) (a : Nat) (L : List (Nat × Nat)) (μ : gM) : Prop := ∀ i x, L[i]? = some x → gi μ a i = enc v x
theorem AW_app {a : Nat} {L : List (Nat × Nat)} {μ : gM} {x : Nat × Nat} (h : AW v a L μ) : AW v a (L ++ [x]) (si μ a L.length (enc v x)) := fun i y hy => by
  by_cases c : i < L.length
  · rw [List.getElem?_append_left c] at hy
    rw [gi_sij (by omega)]; exact h i y hy
  · have h1 := (List.getElem?_eq_some_iff.mp hy).1
    rw [List.length_append, List.length_singleton] at h1
    have hi : i = L.length := by omega
    subst hi
    rw [List.getElem?_append_right (Nat.le_refl _), Nat.sub_self] at hy
    have : some x = some y := hy
    cases this
    exact gi_sii
theorem AW_o {a b i : Nat} {L : List (Nat × Nat)} {μ : gM} {x : Int32} (h : AW v a L μ) (hb : a ≠ b) : AW v a L (si μ b i x) := fun j y hy => (gi_sik hb).trans (h j y hy)
def wrs (v : Nat → Nat → Int32) : List (Nat × Nat) → Int32 := List.foldl (fun s x => s + rfr v x.2 x.1) 0
def wln (v : Nat → Nat → Int32) : List (Nat × Nat) → Nat := List.foldl (fun s x => s + ln v x.1) 0
def wset : List (Nat × Nat) → Int32 := List.foldl (fun s x => s ||| ((1 : Int32) <<< (nI x.1 &&& 31))) 0
theorem wrs_a {L : List (Nat × Nat)} {x : Nat × Nat} : wrs v (L ++ [x]) = wrs v L + rfr v x.2 x.1 := by unfold wrs; rw [List.foldl_append]; rfl
theorem wln_a {L : List (Nat × Nat)} {x : Nat × Nat} : wln v (L ++ [x]) = wln v L + ln v x.1 := by unfold wln; rw [List.foldl_append]; rfl
theorem wset_a {L : List (Nat × Nat)} {x : Nat × Nat} : wset (L ++ [x]) = wset L ||| ((1 : Int32) <<< (nI x.1 &&& 31)) := by unfold wset; rw [List.foldl_append]; rfl
end LW

/-! words, names and numbers at a token -/
section WRD
variable {n : Nat} {μ : gM} {S : List Nat}
theorem CTk.kd {T : Tk} (h : CTk n μ T S) : gi μ 1 5 = nI T.1 := by
  obtain ⟨p, k, s, e, R, X, hk, -⟩ := h
  rw [R.2.2.2.2.2.1, hk]
theorem CTk.sI {T : Tk} (h : CTk n μ T S) {k i : Nat} {x : Int32} (hk : (k ≠ 1 ∨ 7 < i) ∧ k ≠ 2) : CTk n (si μ k i x) T S := by
  obtain ⟨p, kd, s, e, ⟨r1, r2, r3, r4, r5, r6, r7, r8⟩, X, a, b, c⟩ := h
  have g : ∀ j, j ≤ 7 → gi (si μ k i x) 1 j = gi μ 1 j := fun j hj => by rw [gi_si, if_neg (by omega)]
  have t2 : gi (si μ k i x) 2 = gi μ 2 := funext (fun j => by rw [gi_si, if_neg (by omega)])
  refine ⟨p, kd, s, e, ⟨r1, ?_, ?_, ?_, ?_, ?_, ?_, ?_⟩, ?_, a, ?_, ?_⟩
  · rw [g 2 (by decide)]; exact r2
  · rw [t2]; exact r3
  · rw [g 3 (by decide)]; exact r4
  · rw [g 4 (by decide)]; exact r5
  · rw [g 5 (by decide)]; exact r6
  · rw [g 6 (by decide), t2]; exact r7
  · rw [g 7 (by decide), t2]; exact r8
  · rw [t2]; exact X
  · rw [t2]; exact b
  · rw [g 7 (by decide)]; exact c
theorem c_iwN {T : Tk} {m k : Nat} (hm : m ≤ 9) (h : CTk n μ T S) (hT : T.1 ≠ 1) : iwd (nI m) m k μ = some false := by
  obtain ⟨p, kd, s, e, R, X, hk, -⟩ := h
  have L := Tok_le R.2.2.1
  obtain ⟨b, e1, e2⟩ := c_isW (k := k) hm L.2.2.2.1 L.2.1 (by have := R.1; omega) R.2.2.2.1 R.2.2.2.2.1 R.2.2.2.2.2.1
  rw [e1]
  cases b with
  | false => rfl
  | true => exact absurd ((e2.mp rfl).1) (fun w => hT (by rw [← hk]; exact w))
theorem c_iw {w : List Nat} {m k : Nat} (hm : m ≤ 9) (h : CTk n μ (twd w) S) {K : List Nat} (hK : K.length = m) (hs : ∀ i, i < m → sc k i = nI (K.getD i 0)) (hKb : ∀ x, x ∈ K → x < 200) : iwd (nI m) m k μ = some (decide (w = K)) := by
  obtain ⟨p, kd, s, e, R, X, hk, hw, -⟩ := h
  have hk : kd = 1 := hk
  obtain ⟨he, ht, hl⟩ := hw rfl
  have he : e = s + w.length := he
  have ht : ∀ i, i < w.length → gi μ 2 (s + i) = nI (w.getD i 0) := ht
  have hl : ∀ x, x ∈ w → lt1 x := hl
  have L := Tok_le R.2.2.1
  obtain ⟨b, e1, e2⟩ := c_isW (k := k) hm L.2.2.2.1 L.2.1 (by have := R.1; omega) R.2.2.2.1 R.2.2.2.2.1 R.2.2.2.2.2.1
  rw [e1]
  congr 1
  refine Bool.eq_iff_iff.mpr ?_
  rw [e2, decide_eq_true_iff, hk, he, Nat.add_sub_cancel_left]
  constructor
  · rintro ⟨-, h1, h2⟩
    refine List.ext_getElem (by omega) (fun i i1 i2 => ?_)
    have a := h2 i (by omega)
    rw [ht i i1, Nat.zero_add, hs i (by omega)] at a
    have b1 := hl _ (getD_m i1)
    have b2 := hKb _ (getD_m i2)
    have c := (nI_eq (by unfold lt1 at b1; omega) (by omega)).mp a
    rw [List.getD_eq_getElem?_getD, List.getD_eq_getElem?_getD, List.getElem?_eq_getElem i1, List.getElem?_eq_getElem i2] at c
    exact c
  · rintro rfl
    exact ⟨rfl, hK, fun i hi => by rw [ht i (by omega), Nat.zero_add, hs i hi]⟩
def kLevel : List Nat := [108, 101, 118, 101, 108]
def kDown : List Nat := [100, 111, 119, 110]
def kPoint : List Nat := [112, 111, 105, 110, 116]
def kLine : List Nat := [108, 105, 110, 101]
def kTest : List Nat := [116, 101, 115, 116]
def kSet : List Nat := [115, 101, 116]
def kTol : List Nat := [116, 111, 108, 101, 114, 97, 110, 99, 101]
def kSight : List Nat := [115, 105, 103, 104, 116]
theorem w5 {w : List Nat} (h : CTk n μ (twd w) S) : f_X4_isWord_5 μ = some (decide (w = kLevel)) := c_iw (m := 5) (k := 5) (by decide) h rfl (by decide +kernel) (by decide +kernel)
theorem w6 {w : List Nat} (h : CTk n μ (twd w) S) : f_X4_isWord_6 μ = some (decide (w = kDown)) := c_iw (m := 4) (k := 6) (by decide) h rfl (by decide +kernel) (by decide +kernel)
theorem w7 {w : List Nat} (h : CTk n μ (twd w) S) : f_X4_isWord_7 μ = some (decide (w = kPoint)) := c_iw (m := 5) (k := 7) (by decide) h rfl (by decide +kernel) (by decide +kernel)
theorem w8 {w : List Nat} (h : CTk n μ (twd w) S) : f_X4_isWord_8 μ = some (decide (w = kLine)) := c_iw (m := 4) (k := 8) (by decide) h rfl (by decide +kernel) (by decide +kernel)
theorem w9 {w : List Nat} (h : CTk n μ (twd w) S) : f_X4_isWord_9 μ = some (decide (w = kTest)) := c_iw (m := 4) (k := 9) (by decide) h rfl (by decide +kernel) (by decide +kernel)
theorem w10 {w : List Nat} (h : CTk n μ (twd w) S) : f_X4_isWord_10 μ = some (decide (w = kSet)) := c_iw (m := 3) (k := 10) (by decide) h rfl (by decide +kernel) (by decide +kernel)
theorem w11 {w : List Nat} (h : CTk n μ (twd w) S) : f_X4_isWord_11 μ = some (decide (w = kTol)) := c_iw (m := 9) (k := 11) (by decide) h rfl (by decide +kernel) (by decide +kernel)
theorem w12 {w : List Nat} (h : CTk n μ (twd w) S) : f_X4_isWord_12 μ = some (decide (w = kSight)) := c_iw (m := 5) (k := 12) (by decide) h rfl (by decide +kernel) (by decide +kernel)
theorem w6N {T : Tk} (h : CTk n μ T S) (hT : T.1 ≠ 1) : f_X4_isWord_6 μ = some false := c_iwN (m := 4) (k := 6) (by decide) h hT
/-- a name of two letters -/
def nmc (c d : Nat) : Int32 := nI ((32 * (c - 96) + (d - 96)) * 1048576)
theorem nm_at {c d : Nat} (h : CTk n μ (twd [c, d]) S) : f_X4_isName μ = some true ∧ gi μ 1 6 = nmc c d := by
  have ne : ∀ K : List Nat, K.length ≠ 2 → decide ([c, d] = K) = false := fun K hK => decide_eq_false (fun w => hK (by rw [← w]; rfl))
  constructor
  · have h15 := h.kd
    have a5 := w5 h
    have a6 := w6 h
    have a7 := w7 h
    have a8 := w8 h
    have a9 := w9 h
    have a10 := w10 h
    have a12 := w12 h
    obtain ⟨p, kd, s, e, R, X, hk, hw, -⟩ := h
    obtain ⟨he, -⟩ := hw rfl
    have he : e = s + 2 := he
    unfold f_X4_isName
    have L := Tok_le R.2.2.1
    have f0 : b2i false = 0 := rfl
    rw [h15, if_pos (show nI (twd [c, d]).1 = 1 from rfl), R.2.2.2.1, R.2.2.2.2.1, he, pk_sub (by omega), Nat.add_sub_cancel_left, if_neg (by decide), a5, ne kLevel (by decide), Option.bind_some, if_pos f0, a6, ne kDown (by decide), Option.bind_some, if_pos f0, a7, ne kPoint (by decide), Option.bind_some, if_pos f0, a8, ne kLine (by decide), Option.bind_some, if_pos f0, a9, ne kTest (by decide), Option.bind_some, if_pos f0, a10, ne kSet (by decide), Option.bind_some, if_pos f0, a12, ne kSight (by decide), Option.bind_some, if_pos f0]
  · obtain ⟨p, kd, s, e, R, X, hk, hw, -⟩ := h
    obtain ⟨he, ht, hl⟩ := hw rfl
    have he : e = s + 2 := he
    have h0 := ht 0 (Nat.succ_pos _)
    have h1 := ht 1 (Nat.lt_succ_self _)
    have h0 : gi μ 2 (s + 0) = nI c := h0
    have h1 : gi μ 2 (s + 1) = nI d := h1
    have lc : lt1 c := hl c List.mem_cons_self
    have ld : lt1 d := hl d (List.mem_cons_of_mem _ List.mem_cons_self)
    unfold lt1 at lc ld
    rw [R.2.2.2.2.2.2.1 hk, he, Nat.add_sub_cancel_left, wdC_e 2 (by decide) (fun j h2 h3 => by
      have : j = s + 0 ∨ j = s + 1 := by omega
      rcases this with w | w
      · rw [w, h0]; exact (ltr_n (by omega)).mpr lc
      · rw [w, h1]; exact (ltr_n (by omega)).mpr ld)]
    show nI ((32 * (32 * 0 + ((gi μ 2 (s + 0)).toInt - 96).toNat) + ((gi μ 2 (s + 1)).toInt - 96).toNat) * 1048576) = nmc c d
    rw [h0, h1, nI_toInt (by omega), nI_toInt (by omega)]
    unfold nmc
    congr 2
    omega
theorem nmc_ne {c d c' d' : Nat} (hc : 97 ≤ c ∧ c ≤ 122) (hd : 97 ≤ d ∧ d ≤ 122) (hc' : 97 ≤ c' ∧ c' ≤ 122) (hd' : 97 ≤ d' ∧ d' ≤ 122) (h : c ≠ c' ∨ d ≠ d') : nmc c d ≠ nmc c' d' := fun w => by
  unfold nmc at w
  have := (nI_eq (by omega) (by omega)).mp w
  omega
def nmL (l : Nat) : Int32 := nmc 108 (97 + l)
def nmP (p : Nat) : Int32 := nmc 112 (97 + p)
theorem int_in {x a b : Nat} {T : Tk} (h : CTk n μ T S) (hT : T = tnb x) (h1 : a ≤ x) (h2 : x ≤ b) (hb : b < 2 ^ 31) : f_X4_isIntegerIn (nI a) (nI b) μ = some (true, μ) ∧ gi μ 1 7 = nI x := by
  subst hT
  have h15 := h.kd
  obtain ⟨p, kd, s, e, R, X, hk, -, hv⟩ := h
  have hv : gi μ 1 7 = nI x := hv rfl
  refine ⟨?_, hv⟩
  unfold f_X4_isIntegerIn
  rw [h15, if_pos (show nI (tnb x).1 = 2 from rfl), hv, if_neg (nI_nlt h1 (by omega)), if_pos (nI_le h2 hb)]
/-- names that the draft has: a levels, b points -/
def NMS (a b : Nat) (μ : gM) : Prop := (gi μ 47 0 = nI a ∧ a ≤ 3 ∧ ∀ l, l < a → gi μ 49 l = nmL l) ∧ gi μ 47 1 = nI b ∧ b ≤ 16 ∧ ∀ p, p < b → gi μ 51 p = nmP p
theorem fl_L {a b : Nat} (H : NMS a b μ) {l : Nat} (hl : l < a) : f_X3b_findLevel (nmL l) μ = some (nI l) := by
  obtain ⟨⟨h1, h2, h3⟩, -⟩ := H
  have g : gloop (fun t => b_X3b_findLevel_2 (nmL l) t μ) gFuel (0 : Int32) = some (.inr (nI l)) := by
    refine gloop_run (fun i => nI i) l (fun i hi => ?_) ?_ gFuel (by unfold gFuel; omega)
    · show b_X3b_findLevel_2 (nmL l) (nI i) μ = _
      unfold b_X3b_findLevel_2
      rw [h1, if_neg (nI_ge (by omega) (by omega))]
      simp (disch := omega) only [gck, nI_clamp]
      rw [h3 i (by omega), if_neg (show ¬ nmL i = nmL l from nmc_ne (by omega) (by omega) (by omega) (by omega) (by omega)), nI_1]
    · show b_X3b_findLevel_2 (nmL l) (nI l) μ = _
      unfold b_X3b_findLevel_2
      rw [h1, if_neg (nI_ge hl (by omega))]
      simp (disch := omega) only [gck, nI_clamp]
      rw [h3 l hl, if_pos rfl]
  unfold f_X3b_findLevel
  rw [g]; rfl
theorem fl_P {a b : Nat} (H : NMS a b μ) {p : Nat} (hp : p < b) : f_X3b_findPoint (nmP p) μ = some (nI p) := by
  obtain ⟨-, h1, h2, h3⟩ := H
  have g : gloop (fun t => b_X3b_findPoint_2 (nmP p) t μ) gFuel (0 : Int32) = some (.inr (nI p)) := by
    refine gloop_run (fun i => nI i) p (fun i hi => ?_) ?_ gFuel (by unfold gFuel; omega)
    · show b_X3b_findPoint_2 (nmP p) (nI i) μ = _
      unfold b_X3b_findPoint_2
      rw [h1, if_neg (nI_ge (by omega) (by omega))]
      simp (disch := omega) only [gck, nI_clamp]
      rw [h3 i (by omega), if_neg (show ¬ nmP i = nmP p from nmc_ne (by omega) (by omega) (by omega) (by omega) (by omega)), nI_1]
    · show b_X3b_findPoint_2 (nmP p) (nI p) μ = _
      unfold b_X3b_findPoint_2
      rw [h1, if_neg (nI_ge hp (by omega))]
      simp (disch := omega) only [gck, nI_clamp]
      rw [h3 p hp, if_pos rfl]
  unfold f_X3b_findPoint
  rw [g]; rfl
theorem fl_no {a b c d : Nat} (H : NMS a b μ) (hc : 97 ≤ c ∧ c ≤ 122) (hd : 97 ≤ d ∧ d ≤ 122) (h : (c = 108 ∧ a ≤ d - 97) ∨ (c = 112 ∧ b ≤ d - 97)) : f_X3b_findLevel (nmc c d) μ = some (-1) ∧ f_X3b_findPoint (nmc c d) μ = some (-1) := by
  obtain ⟨⟨h1, h2, h3⟩, h4, h5, h6⟩ := H
  constructor
  · have g : gloop (fun t => b_X3b_findLevel_2 (nmc c d) t μ) gFuel (0 : Int32) = some (.inl ()) := by
      refine gloop_run (fun i => nI i) a (fun i hi => ?_) ?_ gFuel (by unfold gFuel; omega)
      · show b_X3b_findLevel_2 (nmc c d) (nI i) μ = _
        unfold b_X3b_findLevel_2
        rw [h1, if_neg (nI_ge (by omega) (by omega))]
        simp (disch := omega) only [gck, nI_clamp]
        rw [h3 i (by omega), if_neg (show ¬ nmL i = nmc c d from nmc_ne (by omega) (by omega) (by omega) (by omega) (by omega)), nI_1]
      · show b_X3b_findLevel_2 (nmc c d) (nI a) μ = _
        unfold b_X3b_findLevel_2
        rw [h1, if_pos (nI_le (Nat.le_refl _) (by omega))]
    unfold f_X3b_findLevel
    rw [g]; rfl
  · have g : gloop (fun t => b_X3b_findPoint_2 (nmc c d) t μ) gFuel (0 : Int32) = some (.inl ()) := by
      refine gloop_run (fun i => nI i) b (fun i hi => ?_) ?_ gFuel (by unfold gFuel; omega)
      · show b_X3b_findPoint_2 (nmc c d) (nI i) μ = _
        unfold b_X3b_findPoint_2
        rw [h4, if_neg (nI_ge (by omega) (by omega))]
        simp (disch := omega) only [gck, nI_clamp]
        rw [h6 i (by omega), if_neg (show ¬ nmP i = nmc c d from nmc_ne (by omega) (by omega) (by omega) (by omega) (by omega)), nI_1]
      · show b_X3b_findPoint_2 (nmc c d) (nI b) μ = _
        unfold b_X3b_findPoint_2
        rw [h4, if_pos (nI_le (Nat.le_refl _) (by omega))]
    unfold f_X3b_findPoint
    rw [g]; rfl
end WRD

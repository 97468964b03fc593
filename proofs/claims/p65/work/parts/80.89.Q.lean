section QN
variable {u v : Nat → Nat → Int32} {μ : gM} {A : Nat}
/-! the line to suspect, loops without a line (39 40) -/
noncomputable def suf (v : Nat → Nat → Int32) (A : Nat) : Nat → Option Nat × Nat
  | 0 => (none, 0)
  | k + 1 => if boN v A k ≤ (suf v A k).2 then suf v A k else (some k, boN v A k)
theorem suf_s (k : Nat) : suf v A (k + 1) = if boN v A k ≤ (suf v A k).2 then suf v A k else (some k, boN v A k) := rfl
theorem suf_I : ∀ k, ((suf v A k).1 = none → (suf v A k).2 = 0) ∧ ∀ j, (suf v A k).1 = some j → j < k ∧ (suf v A k).2 = boN v A j
  | 0 => ⟨fun _ => rfl, fun j h => by cases h⟩
  | k + 1 => by
    obtain ⟨h1, h2⟩ := suf_I k
    rw [suf_s]
    by_cases c : boN v A k ≤ (suf v A k).2
    · rw [if_pos c]; exact ⟨h1, fun j h => ⟨Nat.lt_succ_of_lt (h2 j h).1, (h2 j h).2⟩⟩
    · rw [if_neg c]
      refine ⟨(fun h => by cases h), fun j h => ?_⟩
      have e : k = j := Option.some.inj h
      subst e
      exact ⟨Nat.lt_succ_self _, rfl⟩
theorem suf_b (C : CI v) : ∀ k, (suf v A k).2 ≤ 20
  | 0 => Nat.zero_le _
  | k + 1 => by
    rw [suf_s]
    split
    · exact suf_b C k
    · exact boN_le C k
/-- networks that differ in what is active only -/
def AC (u v : Nat → Nat → Int32) : Prop := (∀ j, j ≠ 0 → u j = v j) ∧ nN u = nN v ∧ nP u = nP v
theorem AC.f (H : AC u v) : fs u = fs v := by funext k; unfold fs; rw [H.1 6 (by decide)]
theorem AC.s (H : AC u v) : sn u = sn v := by funext k; unfold sn; rw [H.1 7 (by decide)]
theorem AC.c (H : AC u v) : ct u = ct v := by funext k; unfold ct; rw [H.1 9 (by decide)]
theorem AC.xsm (H : AC u v) (k w : Nat) : ∀ n, sm u k w n = sm v k w n
  | 0 => rfl
  | n + 1 => by
    show sm u k w n + rd u k n w = sm v k w n + rd v k n w
    rw [AC.xsm H k w n]; unfold rd; rw [H.1 10 (by decide)]
theorem AC.xln (H : AC u v) : ln u = ln v := by funext k; unfold ln; rw [H.xsm, H.xsm, H.c]
theorem AC.xrsm (H : AC u v) (k : Nat) : ∀ n, rsm u k n = rsm v k n
  | 0 => rfl
  | n + 1 => by
    show rsm u k n + stp u k n = rsm v k n + stp v k n
    rw [AC.xrsm H k n]; unfold stp lv; rw [H.1 10 (by decide), H.1 3 (by decide), H.1 8 (by decide)]
theorem AC.xris (H : AC u v) : ris u = ris v := by funext k; unfold ris; rw [H.xrsm, H.c]
theorem AC.xrfr (H : AC u v) : rfr u = rfr v := by funext p k; unfold rfr; rw [H.f, H.xris]
theorem AC.xtbs (H : AC u v) : tbs u = tbs v := by
  funext A M X r t
  have e : tvis u r = tvis v r := by funext p k Y; unfold tvis oO; rw [H.f, H.s]
  unfold tbs; rw [e, H.f, H.s, H.2.1]
theorem AC.xtgr (H : AC u v) (A : Nat) : ∀ r, tgr u A r = tgr v A r
  | 0 => rfl
  | r + 1 => by rw [tgr_s, tgr_s, AC.xtgr H A r, H.xtbs, H.2.2]
theorem AC.xtbr (H : AC u v) (A : Nat) : tbr u A = tbr v A := by unfold tbr; rw [H.xtgr, H.2.2]
theorem AC.xnlp (H : AC u v) (A : Nat) : nlp u A = nlp v A := by unfold nlp; rw [H.xtbr, H.2.1]
theorem AC.xdpv (H : AC u v) (A : Nat) : dpv u A = dpv v A := by unfold dpv; rw [H.xtgr, H.2.2]
theorem AC.xupv (H : AC u v) (A : Nat) : upv u A = upv v A := by unfold upv; rw [H.xtgr, H.2.2]
theorem AC.xulN (H : AC u v) (A : Nat) : ulN u A = ulN v A := by funext p; unfold ulN ulv; rw [H.xtgr, H.2.2]
theorem AC.xwyl (H : AC u v) (A : Nat) : ∀ f h g, wyl u A f h g = wyl v A f h g
  | 0, _, _ => rfl
  | f + 1, h, g => by
    show (if h = g then [] else if dpv u A g ≤ dpv u A h then (ulN u A h, h) :: wyl u A f (upv u A h) g else wyl u A f h (upv u A g) ++ [(ulN u A g, upv u A g)]) = (if h = g then [] else if dpv v A g ≤ dpv v A h then (ulN v A h, h) :: wyl v A f (upv v A h) g else wyl v A f h (upv v A g) ++ [(ulN v A g, upv v A g)])
    rw [H.xdpv, H.xulN, H.xupv, AC.xwyl H A f, AC.xwyl H A f]
theorem AC.xXL (H : AC u v) (A i : Nat) : XL u A i = XL v A i := by
  unfold XL lpk lway
  rw [H.xtbr, H.2.1, H.xwyl, H.xdpv, H.f, H.s]
theorem AC.xwE (H : AC u v) (A i : Nat) : wE u A i = wE v A i := by
  have e1 : ∀ L, wrs u L = wrs v L := fun L => by unfold wrs; rw [H.xrfr]
  have e2 : ∀ L, lmt u L = lmt v L := fun L => by unfold lmt lmX tol wln; rw [H.xln, H.1 1 (by decide)]
  unfold wE
  rw [H.xXL, e1, e2]
theorem AC.xbsf (H : AC u v) (A : Nat) : ∀ n, bsf u A n = bsf v A n
  | 0 => rfl
  | n + 1 => by
    show (if 0 < wE u A n then bsf u A n ||| ((1 : Int32) <<< (nI n &&& 31)) else bsf u A n) = (if 0 < wE v A n then bsf v A n ||| ((1 : Int32) <<< (nI n &&& 31)) else bsf v A n)
    rw [H.xwE, AC.xbsf H A n]
theorem bsf_b : ∀ n, n ≤ 32 → ∀ i, i < 32 → n ≤ i → bt (bsf v A n) i = false
  | 0, _, i, _, _ => b_0 i
  | n + 1, hn, i, hi, h => by
    show bt (if 0 < wE v A n then bsf v A n ||| ((1 : Int32) <<< (nI n &&& 31)) else bsf v A n) i = false
    have ih := bsf_b n (by omega) i hi (by omega)
    split
    · rw [b_or, ih, b_one n (by omega) i hi, decide_eq_false (by omega)]; rfl
    · exact ih
end QN

section PT
variable {v : Nat → Nat → Int32} {μ : gM}
/-! the part of a point, as the model finds it -/
abbrev pl (v : Nat → Nat → Int32) (w : Int32) (k : Nat) : Prop := (nA v).testBit k = true ∧ nI k ≠ w
def pst (v : Nat → Nat → Int32) (w : Int32) (S : Int32) (k : Nat) : Int32 := if pl v w k ∧ (bt S (fs v k) = true ∨ bt S (sn v k) = true) then S ||| (((1 : Int32) <<< (nI (fs v k) &&& 31)) ||| ((1 : Int32) <<< (nI (sn v k) &&& 31))) else S
def pps (v : Nat → Nat → Int32) (w : Int32) (S : Int32) : Nat → Int32
  | 0 => S
  | k + 1 => pst v w (pps v w S k) k
theorem pst_b (C : CI v) {w S : Int32} {k : Nat} (hk : k < nN v) {i : Nat} (hi : i < 32) : bt (pst v w S k) i = true ↔ bt S i = true ∨ (pl v w k ∧ (bt S (fs v k) = true ∨ bt S (sn v k) = true) ∧ (i = fs v k ∨ i = sn v k)) := by
  have hb := C.b
  have hg := C.g k hk
  unfold pst
  by_cases c : pl v w k ∧ (bt S (fs v k) = true ∨ bt S (sn v k) = true)
  · rw [if_pos c, b_or, b_or, b_one _ (by omega) i hi, b_one _ (by omega) i hi, Bool.or_eq_true, Bool.or_eq_true, decide_eq_true_eq, decide_eq_true_eq]
    exact ⟨fun h => h.imp id (fun h => ⟨c.1, c.2, h⟩), fun h => h.imp id (fun h => h.2.2)⟩
  · rw [if_neg c]
    exact ⟨Or.inl, fun h => h.elim id (fun h => absurd ⟨h.1, h.2.1⟩ c)⟩
theorem pps_mo (C : CI v) {w S : Int32} {i : Nat} (hi : i < 32) (h : bt S i = true) : ∀ k, k ≤ nN v → bt (pps v w S k) i = true
  | 0, _ => h
  | k + 1, hk => (pst_b C (by omega) hi).mpr (Or.inl (pps_mo C hi h k (by omega)))
theorem pps_in (C : CI v) {w S : Int32} {Q : Nat → Prop} (hQ : ∀ k, k < nN v → pl v w k → (Q (fs v k) ↔ Q (sn v k))) (h : ∀ i, i < 32 → bt S i = true → Q i) : ∀ k, k ≤ nN v → ∀ i, i < 32 → bt (pps v w S k) i = true → Q i
  | 0, _ => h
  | k + 1, hk => fun i hi hb => by
    have ih := pps_in C hQ h k (by omega)
    have hbb := C.b
    have hg := C.g k (by omega)
    rcases (pst_b C (show k < nN v by omega) hi).mp hb with a | ⟨a, b, c⟩
    · exact ih i hi a
    · have q := hQ k (by omega) a
      have : Q (fs v k) ∧ Q (sn v k) := by
        rcases b with b | b
        · have := ih _ (by omega) b
          exact ⟨this, q.mp this⟩
        · have := ih _ (by omega) b
          exact ⟨q.mpr this, this⟩
      rcases c with c | c
      · rw [c]; exact this.1
      · rw [c]; exact this.2
theorem pps_fx (C : CI v) {w S : Int32} (h : pps v w S (nN v) = S) : ∀ k, k < nN v → pl v w k → bt S (fs v k) = bt S (sn v k) := by
  intro k hk hp
  have hb := C.b
  have hg := C.g k hk
  have mo : ∀ n j i, j + n ≤ nN v → i < 32 → bt (pps v w S j) i = true → bt (pps v w S (j + n)) i = true := by
    intro n
    induction n with
    | zero => exact fun j i _ _ h => h
    | succ n ih => exact fun j i hj hi h => (pst_b C (show j + n < nN v by omega) hi).mpr (Or.inl (ih j i (by omega) hi h))
  have key : (bt S (fs v k) = true ∨ bt S (sn v k) = true) → bt S (fs v k) = true ∧ bt S (sn v k) = true := by
    intro h2
    have h3 : bt (pps v w S k) (fs v k) = true ∨ bt (pps v w S k) (sn v k) = true := h2.imp (fun q => pps_mo C (by omega) q k (by omega)) (fun q => pps_mo C (by omega) q k (by omega))
    have a1 : bt (pps v w S (k + 1)) (fs v k) = true := (pst_b C hk (by omega)).mpr (Or.inr ⟨hp, h3, Or.inl rfl⟩)
    have a2 : bt (pps v w S (k + 1)) (sn v k) = true := (pst_b C hk (by omega)).mpr (Or.inr ⟨hp, h3, Or.inr rfl⟩)
    have b1 := mo (nN v - (k + 1)) (k + 1) _ (by omega) (by omega) a1
    have b2 := mo (nN v - (k + 1)) (k + 1) _ (by omega) (by omega) a2
    rw [show k + 1 + (nN v - (k + 1)) = nN v by omega, h] at b1 b2
    exact ⟨b1, b2⟩
  cases e1 : bt S (fs v k) with
  | true => exact (key (Or.inl e1)).2.symm
  | false =>
    cases e2 : bt S (sn v k) with
    | true => rw [(key (Or.inr e2)).1] at e1; cases e1
    | false => rfl
/-- what the part is -/
def isP (v : Nat → Nat → Int32) (w : Int32) (p : Nat) (S : Int32) : Prop := bt S p = true ∧ (∀ k, k < nN v → pl v w k → bt S (fs v k) = bt S (sn v k)) ∧ ∀ Q : Nat → Prop, (∀ k, k < nN v → pl v w k → (Q (fs v k) ↔ Q (sn v k))) → Q p → ∀ i, i < 32 → bt S i = true → Q i
/-! the root of a point -/
def rtv (v : Nat → Nat → Int32) (A : Nat) : Nat → Nat := (tgr v A (nP v)).2.1.1
theorem tgr_all (C : CI v) (A : Nat) : TA v A (nP v) (tgr v A (nP v)).1 (tgr v A (nP v)).2.1 := tgr_A C (nP v) (Nat.le_refl _)
theorem rt_up (C : CI v) {A : Nat} {Q : Nat → Prop} (hQ : ∀ k, k < nN v → A.testBit k = true → (Q (fs v k) ↔ Q (sn v k))) : ∀ d p, p < nP v → (tgr v A (nP v)).2.1.2.2.2.1 p = d → (Q p ↔ Q (rtv v A p)) := by
  have T := tgr_all C A
  intro d
  induction d with
  | zero =>
    intro p hp hd
    rcases (T.2.1 p (T.1 p hp)).2.2.2.2.2 with h | ⟨h, l, l1, l2, l3, l4, l5, l6, l7, l8⟩
    · rw [show rtv v A p = p from h.1]
    · rw [hd] at l7; omega
  | succ d ih =>
    intro p hp hd
    rcases (T.2.1 p (T.1 p hp)).2.2.2.2.2 with h | ⟨h, l, l1, l2, l3, l4, l5, l6, l7, l8⟩
    · rw [hd] at h; omega
    · have hbb := C.g l l1
      have hol : oO v l p < nP v := brO_lt hbb
      have i := ih (oO v l p) hol (by omega)
      rw [show rtv v A (oO v l p) = rtv v A p from l6] at i
      have q := hQ l l1 l3.1
      rw [← i]
      rcases l3.2 with e | e
      · rw [← e, show oO v l (fs v l) = sn v l from brO_f]; exact q
      · rw [← e, show oO v l (sn v l) = fs v l from brO_s]; exact q.symm
def prt (f : Nat → Nat) : Nat → Nat
  | 0 => 0
  | p + 1 => if f p = p then prt f p + 1 else prt f p
theorem prt_c {f g : Nat → Nat} : ∀ n, (∀ p, p < n → f p = g p) → prt f n = prt g n
  | 0, _ => rfl
  | n + 1, h => by
    show (if f n = n then prt f n + 1 else prt f n) = if g n = n then prt g n + 1 else prt g n
    rw [h n (by omega), prt_c n (fun p hp => h p (by omega))]
theorem tgr_p (C : CI v) (A : Nat) : ∀ r, r ≤ nP v → (∀ p, (tgr v A r).1 p = true → (tgr v A r).2.1.1 p < r) ∧ (tgr v A r).2.2 = prt (tgr v A r).2.1.1 r
  | 0, _ => ⟨fun p h => absurd (show false = true from h) (by decide), rfl⟩
  | r + 1, hr => by
    obtain ⟨h1, h2⟩ := tgr_p C A r (by omega)
    have H := tgr_A (A := A) C r (by omega)
    rw [tgr_s]
    by_cases c : (tgr v A r).1 r = true
    · rw [if_pos c]
      refine ⟨fun p hp => Nat.lt_succ_of_lt (h1 p hp), ?_⟩
      have := h1 r c
      rw [h2]
      exact (if_neg (by omega)).symm
    · rw [if_neg c]
      have dM : (tgr v A r).1 r = false := Bool.eq_false_iff.mpr c
      have G := tbs_G C (show r < nP v by omega) dM H (nP v)
      have L : BLe (tst (tgr v A r).1 (tgr v A r).2.1 r) (tbs v A (tgr v A r).1 (tgr v A r).2.1 r (nP v)) := bs3_le (f := fs v) (s := sn v) (A := A) (vis := tvis v r) (m := nN v) _ _
      have hr1 : (tbs v A (tgr v A r).1 (tgr v A r).2.1 r (nP v)).1 r = true := L.2.2 r uN_s
      generalize tbs v A (tgr v A r).1 (tgr v A r).2.1 r (nP v) = T at *
      obtain ⟨G1, G2, G3, G4, G5⟩ := G
      refine ⟨fun p hp => ?_, ?_⟩
      · show T.2.2.2.1 p < r + 1
        rcases G3 p hp with h | h
        · rw [G4 p h]; exact Nat.lt_succ_of_lt (h1 p h)
        · rw [h]; exact Nat.lt_succ_self _
      · show (tgr v A r).2.2 + 1 = if T.2.2.2.1 r = r then prt T.2.2.2.1 r + 1 else prt T.2.2.2.1 r
        rw [if_pos ((G3 r hr1).resolve_left c), h2]
        exact congrArg (· + 1) (prt_c r (fun p hp => (G4 p (H.1 p hp)).symm))
end PT

/-! the part of a point, as the model finds it -/
section PT
variable {v : Nat → Nat → Int32} {μ : gM}
abbrev pl (v : Nat → Nat → Int32) (w : Int32) (k : Nat) : Prop := (nA v).testBit k = true ∧ nI k ≠ w
def pst (v : Nat → Nat → Int32) (w : Int32) (S : Int32) (k : Nat) : Int32 := if pl v w k ∧ (bt S (fs v k) = true ∨ bt S (sn v k) = true) then S ||| (((1 : Int32) <<< (nI (fs v k) &&& 31)) ||| ((1 : Int32) <<< (nI (sn v k) &&& 31))) else S
def pps (v : Nat → Nat → Int32) (w : Int32) (S : Int32) : Nat → Int32
  | 0 => S
  | k + 1 => pst v w (pps v w S k) k
theorem pst_b (C : CI v) {w S : Int32} {k : Nat} (hk : k < nN v) {i : Nat} (hi : i < 32) : bt (pst v w S k) i = true ↔ bt S i = true ∨ (pl v w k ∧ (bt S (fs v k) = true ∨ bt S (sn v k) = true) ∧ (i = fs v k ∨ i = sn v k)) := by
  have hb := C.b
  have hg := C.g k hk
  unfold pst
  by_cases c : pl v w k ∧ (bt S (fs v k) = true ∨ bt S (sn v k) = true)
  · rw [if_pos c, b_or, b_or, b_one _ (by omega) i hi, b_one _ (by omega) i hi, Bool.or_eq_true, Bool.or_eq_true, decide_eq_true_eq, decide_eq_true_eq]
    exact ⟨fun h => h.imp id (fun h => ⟨c.1, c.2, h⟩), fun h => h.imp id (fun h => h.2.2)⟩
  · rw [if_neg c]
    exact ⟨Or.inl, fun h => h.elim id (fun h => absurd ⟨h.1, h.2.1⟩ c)⟩
theorem pps_mo (C : CI v) {w S : Int32} {i : Nat} (hi : i < 32) (h : bt S i = true) : ∀ k, k ≤ nN v → bt (pps v w S k) i = true
  | 0, _ => h
  | k + 1, hk => (pst_b C (by omega) hi).mpr (Or.inl (pps_mo C hi h k (by omega)))
theorem pps_in (C : CI v) {w S : Int32} {Q : Nat → Prop} (hQ : ∀ k, k < nN v → pl v w k → (Q (fs v k) ↔ Q (sn v k))) (h : ∀ i, i < 32 → bt S i = true → Q i) : ∀ k, k ≤ nN v → ∀ i, i < 32 → bt (pps v w S k) i = true → Q i
  | 0, _ => h
  | k + 1, hk => fun i hi hb => by
    have ih := pps_in C hQ h k (by omega)
    have hbb := C.b
    have hg := C.g k (by omega)
    rcases (pst_b C (show k < nN v by omega) hi).mp hb with a | ⟨a, b, c⟩
    · exact ih i hi a
    · have q := hQ k (by omega) a
      have : Q (fs v k) ∧ Q (sn v k) := by
        rcases b with b | b
        · have := ih _ (by omega) b
          exact ⟨this, q.mp this⟩
        · have := ih _ (by omega) b
          exact ⟨q.mpr this, this⟩
      rcases c with c | c
      · rw [c]; exact this.1
      · rw [c]; exact this.2
theorem pps_fx (C : CI v) {w S : Int32} (h : pps v w S (nN v) = S) : ∀ k, k < nN v → pl v w k → bt S (fs v k) = bt S (sn v k) := by
  intro k hk hp
  have hb := C.b
  have hg := C.g k hk
  have mo : ∀ n j i, j + n ≤ nN v → i < 32 → bt (pps v w S j) i = true → bt (pps v w S (j + n)) i = true := by
    intro n
    induction n with
    | zero => exact fun j i _ _ h => h
    | succ n ih => exact fun j i hj hi h => (pst_b C (show j + n < nN v by omega) hi).mpr (Or.inl (ih j i (by omega) hi h))
  have key : (bt S (fs v k) = true ∨ bt S (sn v k) = true) → bt S (fs v k) = true ∧ bt S (sn v k) = true := by
    intro h2
    have h3 : bt (pps v w S k) (fs v k) = true ∨ bt (pps v w S k) (sn v k) = true := h2.imp (fun q => pps_mo C (by omega) q k (by omega)) (fun q => pps_mo C (by omega) q k (by omega))
    have a1 : bt (pps v w S (k + 1)) (fs v k) = true := (pst_b C hk (by omega)).mpr (Or.inr ⟨hp, h3, Or.inl rfl⟩)
    have a2 : bt (pps v w S (k + 1)) (sn v k) = true := (pst_b C hk (by omega)).mpr (Or.inr ⟨hp, h3, Or.inr rfl⟩)
    have b1 := mo (nN v - (k + 1)) (k + 1) _ (by omega) (by omega) a1
    have b2 := mo (nN v - (k + 1)) (k + 1) _ (by omega) (by omega) a2
    rw [show k + 1 + (nN v - (k + 1)) = nN v by omega, h] at b1 b2
    exact ⟨b1, b2⟩
  cases e1 : bt S (fs v k) with
  | true => exact (key (Or.inl e1)).2.symm
  | false =>
    cases e2 : bt S (sn v k) with
    | true => rw [(key (Or.inr e2)).1] at e1; cases e1
    | false => rfl
theorem m_pass (M : MO v μ) {w S : Int32} (x3 : Int32) : gloop (fun t => b_X8_part_19 w x3 t.1 t.2 μ) gFuel (S, nI 0) = some (pps v w S (nN v)) := by
  have hb := M.1.b
  refine gloop_run (fun k => (pps v w S k, nI k)) (nN v) (fun k hk => ?_) ?_ gFuel (by unfold gFuel; omega)
  · show b_X8_part_19 w x3 (pps v w S k) (nI k) μ = some (Sum.inl (pst v w (pps v w S k) k, nI (k + 1)))
    have hg := M.1.g k hk
    unfold b_X8_part_19 j_X8_part_73
    rw [m_cN M, Option.bind_some, if_neg (nI_ge hk (by omega)), m_isActive M hk, Option.bind_some, nI_1, m_first M hk, m_second M hk, Option.bind_some, m_hasb (by omega), Option.bind_some, Option.bind_some, m_hasb (by omega), Option.bind_some, Option.bind_some, Option.bind_some]
    unfold pst
    by_cases a : (nA v).testBit k = true
    · rw [if_neg (show ¬ b2i ((nA v).testBit k) = 0 from by rw [a]; decide)]
      by_cases b : nI k = w
      · rw [if_pos b, if_neg (fun q => q.1.2 b)]
      · rw [if_neg b]
        by_cases c : bt (pps v w S k) (fs v k) = true
        · rw [if_neg (show ¬ b2i (bt (pps v w S k) (fs v k)) = 0 from by rw [c]; decide), if_pos ⟨⟨a, b⟩, Or.inl c⟩]
        · rw [if_pos (show b2i (bt (pps v w S k) (fs v k)) = 0 from b2i_0.mpr (Bool.eq_false_iff.mpr c))]
          by_cases d : bt (pps v w S k) (sn v k) = true
          · rw [if_neg (show ¬ b2i (bt (pps v w S k) (sn v k)) = 0 from by rw [d]; decide), if_pos ⟨⟨a, b⟩, Or.inr d⟩]
          · rw [if_pos (show b2i (bt (pps v w S k) (sn v k)) = 0 from b2i_0.mpr (Bool.eq_false_iff.mpr d)), if_neg (fun q => q.2.elim c d)]
    · rw [if_pos (show b2i ((nA v).testBit k) = 0 from b2i_0.mpr (Bool.eq_false_iff.mpr a)), if_neg (fun q => a q.1.1)]
  · show b_X8_part_19 w x3 _ (nI (nN v)) μ = _
    unfold b_X8_part_19
    rw [m_cN M, Option.bind_some, if_pos (nI_le (Nat.le_refl _) (by omega))]
/-- what the part is -/
def isP (v : Nat → Nat → Int32) (w : Int32) (p : Nat) (S : Int32) : Prop := bt S p = true ∧ (∀ k, k < nN v → pl v w k → bt S (fs v k) = bt S (sn v k)) ∧ ∀ Q : Nat → Prop, (∀ k, k < nN v → pl v w k → (Q (fs v k) ↔ Q (sn v k))) → Q p → ∀ i, i < 32 → bt S i = true → Q i
theorem m_part (M : MO v μ) {p : Nat} (hp : p < nP v) (w : Int32) : ∃ S, f_X8_part (nI p) w μ = some S ∧ isP v w p S := by
  have hb := M.1.b
  have z0 : (0 : Int32) ≠ (1 : Int32) <<< (nI p &&& 31) := fun e => by
    have := b_one p (by omega) p (by omega)
    rw [← e, b_0, decide_eq_true rfl] at this
    cases this
  obtain ⟨S, h1, h2⟩ := gloop_inv (body := fun t => b_X8_part_7 w t.1 t.2 μ) (fun t => (∃ x, t.2 = x ∧ (t.2 ≠ t.1 ∨ pps v w t.1 (nN v) = t.1)) ∧ bt t.1 p = true ∧ (∀ Q : Nat → Prop, (∀ k, k < nN v → pl v w k → (Q (fs v k) ↔ Q (sn v k))) → Q p → ∀ i, i < 32 → bt t.1 i = true → Q i) ∧ (∀ i, i < 32 → bt t.2 i = true → bt t.1 i = true)) (fun t => (if t.2 = t.1 then 0 else 1) + (32 - pcn t.2 32)) (fun S => isP v w p S) (fun t I => by
    obtain ⟨S, W⟩ := t
    obtain ⟨⟨x, -, I1⟩, I2, I3, I4⟩ := I
    replace I1 : W ≠ S ∨ pps v w S (nN v) = S := I1
    replace I2 : bt S p = true := I2
    replace I4 : ∀ i, i < 32 → bt W i = true → bt S i = true := I4
    show (∃ t, b_X8_part_7 w S W μ = _ ∧ _) ∨ ∃ r, b_X8_part_7 w S W μ = _ ∧ _
    unfold b_X8_part_7
    by_cases c : W = S
    · right
      exact ⟨S, if_pos c, I2, pps_fx M.1 (I1.resolve_left (fun h => h c)), I3⟩
    · left
      rw [if_neg c, show (0 : Int32) = nI 0 from rfl, m_pass M, Option.bind_some]
      have mo := fun i (hi : i < 32) (h : bt S i = true) => pps_mo (w := w) M.1 hi h (nN v) (Nat.le_refl _)
      refine ⟨_, rfl, ⟨⟨S, rfl, ?_⟩, mo p (by omega) I2, fun Q hQ hp i hi h => pps_in M.1 hQ (I3 Q hQ hp) (nN v) (Nat.le_refl _) i hi h, mo⟩, ?_⟩
      · by_cases d : S = pps v w S (nN v)
        · refine Or.inr ?_
          show pps v w (pps v w S (nN v)) (nN v) = pps v w S (nN v)
          rw [← d]; exact d.symm
        · exact Or.inl d
      · show (if S = pps v w S (nN v) then 0 else 1) + (32 - pcn S 32) < (if W = S then 0 else 1) + (32 - pcn W 32)
        rw [if_neg c]
        have lt : pcn W 32 < pcn S 32 := by
          have key : ∀ n, n ≤ 32 → pcn W n ≤ pcn S n ∧ ((∃ i, i < n ∧ bt W i ≠ bt S i) → pcn W n < pcn S n) := by
            intro n
            induction n with
            | zero => exact fun _ => ⟨Nat.le_refl _, fun ⟨i, hi, _⟩ => absurd hi (Nat.not_lt_zero _)⟩
            | succ n ih =>
              intro hn
              obtain ⟨a, b⟩ := ih (by omega)
              show pcn W n + (if bt W n = true then 1 else 0) ≤ pcn S n + (if bt S n = true then 1 else 0) ∧ (_ → pcn W n + (if bt W n = true then 1 else 0) < pcn S n + (if bt S n = true then 1 else 0))
              have i4 := I4 n (by omega)
              by_cases w1 : bt W n = true
              · rw [if_pos w1, if_pos (i4 w1)]
                refine ⟨by omega, fun ⟨i, hi, hne⟩ => ?_⟩
                have : i ≠ n := fun e => hne (by rw [e, w1, i4 w1])
                have := b ⟨i, by omega, hne⟩
                omega
              · rw [if_neg w1]
                by_cases s1 : bt S n = true
                · rw [if_pos s1]; exact ⟨by omega, fun _ => by omega⟩
                · rw [if_neg s1]
                  refine ⟨by omega, fun ⟨i, hi, hne⟩ => ?_⟩
                  have : i ≠ n := fun e => hne (by rw [e, Bool.eq_false_iff.mpr w1, Bool.eq_false_iff.mpr s1])
                  have := b ⟨i, by omega, hne⟩
                  omega
          refine (key 32 (Nat.le_refl _)).2 (Classical.byContradiction (fun hn => c (b_ext (fun i hi => Classical.byContradiction (fun h => hn ⟨i, hi, h⟩)))))
        have le32 : ∀ x n, pcn x n ≤ n := by
          intro x n
          induction n with
          | zero => exact Nat.le_refl _
          | succ n ih =>
            show pcn x n + _ ≤ _
            split <;> omega
        have := le32 S 32
        split <;> omega) gFuel (((1 : Int32) <<< (nI p &&& 31)), (0 : Int32)) (by
    refine ⟨⟨0, rfl, Or.inl z0⟩, ?_, fun Q _ hQ i hi h => ?_, fun i hi h => ?_⟩
    · show bt ((1 : Int32) <<< (nI p &&& 31)) p = true
      rw [b_one p (by omega) p (by omega), decide_eq_true rfl]
    · have h2 : bt ((1 : Int32) <<< (nI p &&& 31)) i = true := h
      rw [b_one p (by omega) i hi, decide_eq_true_eq] at h2
      rw [h2]; exact hQ
    · have h2 : bt 0 i = true := h
      rw [b_0] at h2; cases h2) (by
    show (if (0 : Int32) = (1 : Int32) <<< (nI p &&& 31) then 0 else 1) + (32 - pcn 0 32) < gFuel
    unfold gFuel
    split <;> omega)
  refine ⟨S, ?_, h2⟩
  unfold f_X8_part
  rw [h1]; rfl
theorem m_low {S : Int32} {q : Nat} (hq : q < 32) (h : bt S q = true) (hl : ∀ i, i < q → bt S i = false) : f_X8_lowest S μ = some (nI q) := by
  have g : gloop (fun t => b_X8_lowest_2 S t μ) gFuel (nI 0) = some (nI q) := by
    refine gloop_run (fun i => nI i) q (fun i hi => ?_) ?_ gFuel (by unfold gFuel; omega)
    · show b_X8_lowest_2 S (nI i) μ = _
      unfold b_X8_lowest_2
      rw [m_hasb (by omega), Option.bind_some, if_pos (show b2i (bt S i) = 0 from b2i_0.mpr (hl i hi)), nI_1]
    · show b_X8_lowest_2 S (nI q) μ = _
      unfold b_X8_lowest_2
      rw [m_hasb hq, Option.bind_some, if_neg (show ¬ b2i (bt S q) = 0 from by rw [h]; decide)]
  unfold f_X8_lowest
  rw [show (0 : Int32) = nI 0 from rfl, g]; rfl
/-! the root of a point -/
def rtv (v : Nat → Nat → Int32) (A : Nat) : Nat → Nat := (tgr v A (nP v)).2.1.1
theorem tgr_all (C : CI v) (A : Nat) : TA v A (nP v) (tgr v A (nP v)).1 (tgr v A (nP v)).2.1 := tgr_A C (nP v) (Nat.le_refl _)
theorem rt_up (C : CI v) {A : Nat} {Q : Nat → Prop} (hQ : ∀ k, k < nN v → A.testBit k = true → (Q (fs v k) ↔ Q (sn v k))) : ∀ d p, p < nP v → (tgr v A (nP v)).2.1.2.2.2.1 p = d → (Q p ↔ Q (rtv v A p)) := by
  have T := tgr_all C A
  intro d
  induction d with
  | zero =>
    intro p hp hd
    rcases (T.2.1 p (T.1 p hp)).2.2.2.2.2 with h | ⟨h, l, l1, l2, l3, l4, l5, l6, l7, l8⟩
    · rw [show rtv v A p = p from h.1]
    · rw [hd] at l7; omega
  | succ d ih =>
    intro p hp hd
    rcases (T.2.1 p (T.1 p hp)).2.2.2.2.2 with h | ⟨h, l, l1, l2, l3, l4, l5, l6, l7, l8⟩
    · rw [hd] at h; omega
    · have hbb := C.g l l1
      have hol : oO v l p < nP v := brO_lt hbb
      have i := ih (oO v l p) hol (by omega)
      rw [show rtv v A (oO v l p) = rtv v A p from l6] at i
      have q := hQ l l1 l3.1
      rw [← i]
      rcases l3.2 with e | e
      · rw [← e, show oO v l (fs v l) = sn v l from brO_f]; exact q
      · rw [← e, show oO v l (sn v l) = fs v l from brO_s]; exact q.symm
theorem m_root (M : MO v μ) {p : Nat} (hp : p < nP v) : ∃ S, f_X8_part (nI p) (-1 : Int32) μ = some S ∧ f_X8_lowest S μ = some (nI (rtv v (nA v) p)) := by
  have hb := M.1.b
  have T := tgr_all M.1 (nA v)
  obtain ⟨S, e, h1, h2, h3⟩ := m_part M hp (-1)
  have hpl : ∀ k, k < nN v → (nA v).testBit k = true → pl v (-1) k := fun k hk h => ⟨h, m1_ne (by omega)⟩
  have R := T.2.1 p (T.1 p hp)
  have hrl : rtv v (nA v) p < nP v := Nat.lt_of_le_of_lt R.2.2.1 hp
  refine ⟨S, e, m_low (by omega) ?_ (fun i hi => ?_)⟩
  · have := (rt_up M.1 (A := nA v) (Q := fun q => bt S q = true) (fun k hk hA => by rw [h2 k hk (hpl k hk hA)]) _ p hp rfl).mp h1
    exact this
  · cases c : bt S i with
    | false => rfl
    | true =>
      exfalso
      have q := h3 (fun i => i < nP v ∧ rtv v (nA v) i = rtv v (nA v) p) (fun k hk hA => by
        have g := M.1.g k hk
        have r := T.2.2.2.2 k hk hA.1 (T.1 _ g.1)
        have r2 : rtv v (nA v) (fs v k) = rtv v (nA v) (sn v k) := r
        rw [r2]
        exact ⟨fun w => ⟨g.2, w.2⟩, fun w => ⟨g.1, w.2⟩⟩) ⟨hp, rfl⟩ i (by omega) c
      have := (T.2.1 i (T.1 i q.1)).2.2.1
      have h9 : rtv v (nA v) i ≤ i := this
      omega
def prt (f : Nat → Nat) : Nat → Nat
  | 0 => 0
  | p + 1 => if f p = p then prt f p + 1 else prt f p
theorem prt_c {f g : Nat → Nat} : ∀ n, (∀ p, p < n → f p = g p) → prt f n = prt g n
  | 0, _ => rfl
  | n + 1, h => by
    show (if f n = n then prt f n + 1 else prt f n) = if g n = n then prt g n + 1 else prt g n
    rw [h n (by omega), prt_c n (fun p hp => h p (by omega))]
theorem tgr_p (C : CI v) (A : Nat) : ∀ r, r ≤ nP v → (∀ p, (tgr v A r).1 p = true → (tgr v A r).2.1.1 p < r) ∧ (tgr v A r).2.2 = prt (tgr v A r).2.1.1 r
  | 0, _ => ⟨fun p h => absurd (show false = true from h) (by decide), rfl⟩
  | r + 1, hr => by
    obtain ⟨h1, h2⟩ := tgr_p C A r (by omega)
    have H := tgr_A (A := A) C r (by omega)
    rw [tgr_s]
    by_cases c : (tgr v A r).1 r = true
    · rw [if_pos c]
      refine ⟨fun p hp => Nat.lt_succ_of_lt (h1 p hp), ?_⟩
      have := h1 r c
      rw [h2]
      exact (if_neg (by omega)).symm
    · rw [if_neg c]
      have dM : (tgr v A r).1 r = false := Bool.eq_false_iff.mpr c
      have G := tbs_G C (show r < nP v by omega) dM H (nP v)
      have L : BLe (tst (tgr v A r).1 (tgr v A r).2.1 r) (tbs v A (tgr v A r).1 (tgr v A r).2.1 r (nP v)) := bs3_le (f := fs v) (s := sn v) (A := A) (vis := tvis v r) (m := nN v) _ _
      have hr1 : (tbs v A (tgr v A r).1 (tgr v A r).2.1 r (nP v)).1 r = true := L.2.2 r uN_s
      generalize tbs v A (tgr v A r).1 (tgr v A r).2.1 r (nP v) = T at *
      obtain ⟨G1, G2, G3, G4, G5⟩ := G
      refine ⟨fun p hp => ?_, ?_⟩
      · show T.2.2.2.1 p < r + 1
        rcases G3 p hp with h | h
        · rw [G4 p h]; exact Nat.lt_succ_of_lt (h1 p h)
        · rw [h]; exact Nat.lt_succ_self _
      · show (tgr v A r).2.2 + 1 = if T.2.2.2.1 r = r then prt T.2.2.2.1 r + 1 else prt T.2.2.2.1 r
        rw [if_pos ((G3 r hr1).resolve_left c), h2]
        exact congrArg (· + 1) (prt_c r (fun p hp => (G4 p (H.1 p hp)).symm))
theorem sim_25 (s1 : Int32) (R : Rel μ) : simOK μ (f_case_25 s1 μ) := by
  have hb := R.1.b
  refine workI (fC := f_X7_rootOf s1 μ) (fM := f_X8_rootOf s1) R ?_
  rcases ix3 s1 (n := nP (nv 34 μ)) (by omega) with h | ⟨a, ha, rfl⟩
  · refine Or.inl ⟨μ, ?_, Fr.rf μ, 0, si μ 60 6 1, ?_, si60 1, gi_sii⟩
    · unfold f_X7_rootOf; rw [R.co.P, needB (by omega) h]; rfl
    · unfold f_X8_rootOf; rw [m_pointB R.mo h]; rfl
  · obtain ⟨ν1, e1, F1, -, T1⟩ := c_grow R.co R.1.A31
    refine Or.inr ⟨nI (rtv (nv 34 μ) (nA (nv 34 μ)) a), ν1, ?_, F1, fun ν M => ?_⟩
    · unfold f_X7_rootOf; rw [R.co.P, needG (by omega) ha, Option.bind_some]
      show Option.bind (f_X5_grow (gi μ 34 4) μ) _ = _
      rw [R.co.A, e1, Option.bind_some, gck (by omega) (by decide), nI_clamp (by omega), T1.1 a ha, if_pos ((tgr_all R.1 _).1 a ha)]; rfl
    · obtain ⟨S, e2, e3⟩ := m_root (M.si6 0) ha
      refine ⟨si ν 60 6 0, ?_, si60 0, gi_sii⟩
      unfold f_X8_rootOf; rw [m_pointG M ha, Option.bind_some, failG, Option.bind_some]; simp only [bF, if_true]
      rw [e2, Option.bind_some, e3]; rfl
theorem sim_26 (R : Rel μ) : simOK μ (f_case_26 μ) := by
  have hb := R.1.b
  refine workE (fC := f_X7_partCount μ) (fM := f_X8_partCount) R ?_
  obtain ⟨ν1, e1, F1, E1, T1⟩ := c_grow R.co R.1.A31
  refine ⟨nI (prt (rtv (nv 34 μ) (nA (nv 34 μ))) (nP (nv 34 μ))), ν1, ?_, F1, fun ν M => ?_⟩
  · unfold f_X7_partCount
    rw [R.co.A, e1, Option.bind_some, E1, (tgr_p R.1 _ _ (Nat.le_refl _)).2]; rfl
  · have M1 := M.si6 0
    have T := tgr_all M.1 (nA (nv 34 μ))
    refine ⟨si ν 60 6 0, ?_, si60 0⟩
    unfold f_X8_partCount
    have h : gloop (fun t => b_X8_partCount_9 t.1 t.2 (si ν 60 6 0)) gFuel ((0 : Int32), (0 : Int32)) = some (nI (prt (rtv (nv 34 μ) (nA (nv 34 μ))) (nP (nv 34 μ)))) := by
      refine gloop_run (fun i => (nI (prt (rtv (nv 34 μ) (nA (nv 34 μ))) i), nI i)) (nP (nv 34 μ)) (fun i hi => ?_) ?_ gFuel (by unfold gFuel; omega)
      · show b_X8_partCount_9 (nI (prt (rtv (nv 34 μ) (nA (nv 34 μ))) i)) (nI i) (si ν 60 6 0) = some (Sum.inl (nI (if rtv (nv 34 μ) (nA (nv 34 μ)) i = i then prt (rtv (nv 34 μ) (nA (nv 34 μ))) i + 1 else prt (rtv (nv 34 μ) (nA (nv 34 μ))) i), nI (i + 1)))
        obtain ⟨S, e2, e3⟩ := m_root M1 hi
        have hrl : rtv (nv 34 μ) (nA (nv 34 μ)) i ≤ i := (T.2.1 i (T.1 i hi)).2.2.1
        unfold b_X8_partCount_9
        rw [m_cP M1, Option.bind_some, if_neg (nI_ge hi (by omega)), e2, Option.bind_some, e3, Option.bind_some, nI_1]
        by_cases c : rtv (nv 34 μ) (nA (nv 34 μ)) i = i
        · rw [if_pos (by rw [c]), if_pos c, nI_1]
        · rw [if_neg (fun w => c ((nI_eq (by omega) (by omega)).mp w)), if_neg c, Int32.add_zero, nI_1]
      · show b_X8_partCount_9 _ (nI (nP (nv 34 μ))) (si ν 60 6 0) = _
        unfold b_X8_partCount_9
        rw [m_cP M1, Option.bind_some, if_pos (nI_le (Nat.le_refl _) (by omega))]
    rw [h]; rfl
end PT

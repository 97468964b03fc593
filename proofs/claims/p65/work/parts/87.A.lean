/-! provisional heights: the law's queue is the class's -/
section PRV
variable {v : Nat → Nat → Int32} {ν μ : gM}
/-- the law's heights and queue beside a search -/
def QR (i : Nat) (S : HS) (z0 : Nat → Int64) (z2 : Nat) (z3 : Nat → Nat) : Prop := (∀ p, p < i → z0 p = S.2.2.2 p) ∧ z2 = S.2.2.1 ∧ ∀ j, j < S.2.2.1 → z3 j = S.2.1 j
theorem QR.st {i : Nat} {S : HS} {z0 : Nat → Int64} {z2 : Nat} {z3 : Nat → Nat} (h : QR i S z0 z2 z3) (o : Nat) (x : Int64) : QR i (uN S.1 o true, uN S.2.1 S.2.2.1 o, S.2.2.1 + 1, uN S.2.2.2 o x) (vp_updL z0 o x) (z2 + 1) (fun j => if j = z2 then o else z3 j) := by
  obtain ⟨h1, h2, h3⟩ := h
  subst h2
  refine ⟨fun p hp => ?_, rfl, fun j hj => ?_⟩
  · show vp_updL z0 o x p = uN S.2.2.2 o x p
    by_cases c : p = o
    · rw [c, uN_s]; exact pk_uLs
    · rw [uN_n c, pk_uLn c]; exact h1 p hp
  · show (if j = S.2.2.1 then o else z3 j) = uN S.2.1 S.2.2.1 o j
    by_cases c : j = S.2.2.1
    · rw [if_pos c, c, uN_s]
    · rw [if_neg c, uN_n c]
      exact h3 j (by have : j < S.2.2.1 + 1 := hj; omega)
abbrev ZT : Type := (Nat → Int64) × Nat × Nat × (Nat → Nat)
theorem l_17 (C : CI v) (M : LM v ν) : ∃ r : ZT, gloop (fun (t : Int32 × (Nat → Int64) × Nat × Nat × (Nat → Nat)) => b_L_provisional_17 t.1 t.2.1 t.2.2.1 t.2.2.2.1 t.2.2.2.2 ν μ) 9 ((0 : Int32), (fun _ => 0), 0, 0, (fun _ => 0)) = some r ∧ r.2.1 = 0 ∧ QR (nP v) (hci v (nP v)) r.1 r.2.2.1 r.2.2.2 := by
  have hb := M.b
  have H0 := hci_I C
  refine gloop_relN (fun i (t : Int32 × (Nat → Int64) × Nat × Nat × (Nat → Nat)) => t.1 = nI i ∧ t.2.2.1 = 0 ∧ QR i (hci v i) t.2.1 t.2.2.2.1 t.2.2.2.2) (fun (r : ZT) => r.2.1 = 0 ∧ QR (nP v) (hci v (nP v)) r.1 r.2.2.1 r.2.2.2) (nP v) 9 (fun i t hi hR => ?_) (by omega) ⟨rfl, rfl, fun p hp => absurd hp (Nat.not_lt_zero p), rfl, fun j hj => absurd hj (Nat.not_lt_zero j)⟩
  obtain ⟨x, z0, z1, z2, z3⟩ := t
  obtain ⟨e1, e2, R⟩ := hR
  have e1 : x = nI i := e1
  have e2 : z1 = 0 := e2
  subst e1 e2
  have R : QR i (hci v i) z0 z2 z3 := R
  show (∃ t, b_L_provisional_17 (nI i) z0 0 z2 z3 ν μ = _ ∧ _) ∨ ∃ r, b_L_provisional_17 (nI i) z0 0 z2 z3 ν μ = _ ∧ _
  unfold b_L_provisional_17
  rw [M.P]
  by_cases c : i = nP v
  · right
    rw [if_pos (nI_le (by omega) (by omega))]
    exact ⟨_, rfl, rfl, by rw [← c]; exact R⟩
  · left
    have hil : i < nP v := by omega
    have hcn := (H0 i hi).2.2.2
    have hz2 := R.2.1
    rw [if_neg (nI_ge hil (by omega))]
    simp (disch := omega) only [gck, nI_clamp]
    rw [M.h hil]
    have hm : (hci v i).1 i = false := by
      cases q : (hci v i).1 i with
      | false => rfl
      | true => exact absurd (((H0 i hi).2.2.1 i).mp q).1 (Nat.lt_irrefl _)
    by_cases e : v 5 i = -1
    · rw [if_neg (fun w => (held_ge C hil).mp w e)]
      unfold j_L_provisional_53
      rw [M.lp]
      simp (disch := omega) only [gck, nI_clamp]
      rw [M.h hil, if_pos (by rw [e]; decide), nI_1]
      have s : hci v (i + 1) = hci v i := if_pos e
      refine ⟨_, rfl, ⟨rfl, rfl, ?_⟩, by omega⟩
      rw [s]
      refine ⟨fun p hp => ?_, R.2.1, R.2.2⟩
      show vp_updL z0 i _ p = _
      by_cases q : p = i
      · rw [q, pk_uLs, (H0 i hi).2.1.1 i hm]
      · rw [pk_uLn q]; exact R.1 p (by omega)
    · have g := (held_ge C hil).mpr e
      have g0 : ¬ v 5 i < 0 := fun w => by
        rw [Int32.lt_iff_toInt_lt] at w
        rw [Int32.le_iff_toInt_le] at g
        omega
      rw [if_pos g]
      unfold j_L_provisional_53
      rw [M.lp]
      simp (disch := omega) only [gck, nI_clamp]
      rw [M.h hil, if_neg g0, gckb ⟨by omega, by omega, by omega⟩, nI_1]
      have s : hci v (i + 1) = (uN (hci v i).1 i true, uN (hci v i).2.1 (hci v i).2.2.1 i, (hci v i).2.2.1 + 1, uN (hci v i).2.2.2 i ((100 : Int64) * (v 5 i).toInt64)) := if_neg e
      refine ⟨_, rfl, ⟨rfl, rfl, ?_⟩, by omega⟩
      rw [s]
      have Q := R.st i ((100 : Int64) * (v 5 i).toInt64)
      refine ⟨fun p hp => ?_, Q.2.1, Q.2.2⟩
      by_cases q : p = i
      · rw [q]
        show vp_updL z0 i _ i = uN (hci v i).2.2.2 i _ i
        rw [pk_uLs, uN_s]
      · exact Q.1 p (by omega)
theorem l_98 (C : CI v) (M : LM v ν) {S : HS} (I : BI (nP v) (fun _ => false) S) (X : HX v S) {p : Nat} (hp : p < nP v) (hpm : S.1 p = true) {z0 : Nat → Int64} {z1 z2 : Nat} {z3 : Nat → Nat} (h1 : z1 ≤ z2) (R : QR (nP v) S z0 z2 z3) : ∃ r : ZT, gloop (fun (t : Int32 × (Nat → Int64) × Nat × Nat × (Nat → Nat)) => b_L_provisional_98 (nI p) t.1 t.2.1 t.2.2.1 t.2.2.2.1 t.2.2.2.2 ν μ) 12 ((0 : Int32), z0, z1, z2, z3) = some r ∧ r.2.1 = z1 ∧ QR (nP v) (bs2 (fs v) (sn v) (nA v) (hvis v) p S (nN v)) r.1 r.2.2.1 r.2.2.2 := by
  have hb := M.b
  refine gloop_relN (fun k (t : Int32 × (Nat → Int64) × Nat × Nat × (Nat → Nat)) => t.1 = nI k ∧ t.2.2.1 = z1 ∧ z1 ≤ t.2.2.2.1 ∧ QR (nP v) (bs2 (fs v) (sn v) (nA v) (hvis v) p S k) t.2.1 t.2.2.2.1 t.2.2.2.2 ∧ HX v (bs2 (fs v) (sn v) (nA v) (hvis v) p S k)) (fun (r : ZT) => r.2.1 = z1 ∧ QR (nP v) (bs2 (fs v) (sn v) (nA v) (hvis v) p S (nN v)) r.1 r.2.2.1 r.2.2.2) (nN v) 12 (fun k t hk hR => ?_) (by omega) ⟨rfl, rfl, h1, R, X⟩
  obtain ⟨x, z0, y1, z2, z3⟩ := t
  obtain ⟨e1, e2, e3, R, X⟩ := hR
  have e1 : x = nI k := e1
  have e2 : y1 = z1 := e2
  have e3 : z1 ≤ z2 := e3
  subst e1 e2
  have R : QR (nP v) (bs2 (fs v) (sn v) (nA v) (hvis v) p S k) z0 z2 z3 := R
  have I2 := bs2_I (A := nA v) (vis := hvis v) (p := p) C.g I k hk
  have hpm := (bs2_le (f := fs v) (s := sn v) (A := nA v) (vis := hvis v) p S k).2.2 p hpm
  obtain ⟨T, hT⟩ : ∃ T, T = bs2 (fs v) (sn v) (nA v) (hvis v) p S k := ⟨_, rfl⟩
  have hc2 := I2.c
  rw [← hT] at R X I2 hpm hc2
  show (∃ t, b_L_provisional_98 (nI p) (nI k) z0 y1 z2 z3 ν μ = _ ∧ _) ∨ ∃ r, b_L_provisional_98 (nI p) (nI k) z0 y1 z2 z3 ν μ = _ ∧ _
  unfold b_L_provisional_98
  rw [M.N]
  by_cases c : k = nN v
  · right
    rw [if_pos (nI_le (by omega) (by omega))]
    exact ⟨_, rfl, rfl, by rw [← c, ← hT]; exact R⟩
  · left
    have c2 : k < nN v := by omega
    have hg := C.g k c2
    have hz2 := R.2.1
    have s1 : bs2 (fs v) (sn v) (nA v) (hvis v) p S (k + 1) = bs1 (fs v) (sn v) (nA v) (hvis v) p k T := by rw [hT]; rfl
    have ho := brO_lt (p := p) hg
    rw [if_neg (nI_ge c2 (by omega)), M.ll]
    simp (disch := omega) only [gck, nI_clamp]
    rw [M.f C c2, M.s C c2, nI_1, s1]
    have skip : ¬ (brT (fs v) (sn v) (nA v) k p ∧ T.1 (brO (fs v) (sn v) k p) = false) → bs1 (fs v) (sn v) (nA v) (hvis v) p k T = T := fun h => if_neg h
    have go : brT (fs v) (sn v) (nA v) k p → ∃ t, j_L_provisional_146 (nI p) (nI k) z0 y1 z2 z3 ν μ = some (.inl t) ∧ (t.1 = nI (k + 1) ∧ t.2.2.1 = y1 ∧ y1 ≤ t.2.2.2.1 ∧ QR (nP v) (bs1 (fs v) (sn v) (nA v) (hvis v) p k T) t.2.1 t.2.2.2.1 t.2.2.2.2 ∧ HX v (bs1 (fs v) (sn v) (nA v) (hvis v) p k T)) ∧ k < nN v := fun t1 => by
      have h180 : ∃ t, j_L_provisional_180 (nI p) (nI k) (nI (brO (fs v) (sn v) k p)) z0 y1 z2 z3 ν μ = some (.inl t) ∧ (t.1 = nI (k + 1) ∧ t.2.2.1 = y1 ∧ y1 ≤ t.2.2.2.1 ∧ QR (nP v) (bs1 (fs v) (sn v) (nA v) (hvis v) p k T) t.2.1 t.2.2.2.1 t.2.2.2.2 ∧ HX v (bs1 (fs v) (sn v) (nA v) (hvis v) p k T)) ∧ k < nN v := by
        unfold j_L_provisional_180
        rw [M.lp, M.ll]
        simp (disch := omega) only [gck, nI_clamp]
        rw [R.1 _ ho, R.1 p hp, M.f C c2, nI_1]
        by_cases t2 : T.1 (brO (fs v) (sn v) k p) = false
        · have room := I2.room ho t2
          have tt : brT (fs v) (sn v) (nA v) k p ∧ T.1 (brO (fs v) (sn v) k p) = false := ⟨t1, t2⟩
          rw [if_pos ((X.m (by omega) _).mpr t2)]
          have h231 : ∀ y3 : Int32, y3 = rfr v p k → j_L_provisional_231 (nI p) (nI k) (nI (brO (fs v) (sn v) k p)) (nI (brO (fs v) (sn v) k p)) (T.2.2.2 p) y3 z0 y1 z2 z3 ν μ = some (.inl (nI (k + 1), vp_updL z0 (brO (fs v) (sn v) k p) (T.2.2.2 p + (rfr v p k).toInt64), y1, z2 + 1, fun j => if j = z2 then brO (fs v) (sn v) k p else z3 j)) := fun y3 e => by
            subst e
            unfold j_L_provisional_231
            rw [M.lp]
            simp (disch := omega) only [gck, nI_clamp]
            rw [gckb ⟨by omega, by omega, by omega⟩, nI_1]
          have fin : bs1 (fs v) (sn v) (nA v) (hvis v) p k T = (uN T.1 (brO (fs v) (sn v) k p) true, uN T.2.1 T.2.2.1 (brO (fs v) (sn v) k p), T.2.2.1 + 1, hvis v p k T.2.2.2) := if_pos tt
          have rest : (nI (k + 1) = nI (k + 1) ∧ y1 = y1 ∧ y1 ≤ z2 + 1 ∧ QR (nP v) (bs1 (fs v) (sn v) (nA v) (hvis v) p k T) (vp_updL z0 (brO (fs v) (sn v) k p) (T.2.2.2 p + (rfr v p k).toInt64)) (z2 + 1) (fun j => if j = z2 then brO (fs v) (sn v) k p else z3 j) ∧ HX v (bs1 (fs v) (sn v) (nA v) (hvis v) p k T)) ∧ k < nN v := by
            rw [fin]
            exact ⟨⟨rfl, rfl, by omega, R.st _ _, HX_step C I2 X c2 hpm t2⟩, c2⟩
          by_cases d : fs v k = p
          · rw [if_pos (by rw [d]), l_rise C M c2, Option.bind_some, h231 _ (if_pos d).symm]
            exact ⟨_, rfl, rest⟩
          · rw [if_neg (fun w => d ((nI_eq (by omega) (by omega)).mp w)), l_rise C M c2, Option.bind_some, h231 _ (if_neg d).symm]
            exact ⟨_, rfl, rest⟩
        · rw [if_neg (fun w => t2 ((X.m (by omega) _).mp w)), skip (fun w => t2 w.2)]
          exact ⟨_, rfl, ⟨rfl, rfl, e3, R, X⟩, c2⟩
      unfold j_L_provisional_146
      rw [M.ll]
      simp (disch := omega) only [gck, nI_clamp]
      rw [M.f C c2, M.s C c2]
      by_cases d : fs v k = p
      · rw [if_pos (by rw [d])]
        rw [show brO (fs v) (sn v) k p = sn v k from if_pos d] at h180
        exact h180
      · rw [if_neg (fun w => d ((nI_eq (by omega) (by omega)).mp w))]
        rw [show brO (fs v) (sn v) k p = fs v k from if_neg d] at h180
        exact h180
    by_cases a : (nA v).testBit k = true
    · rw [if_neg (fun q => (M.a0 c2).mp q a)]
      by_cases d : fs v k = p
      · rw [if_pos (by rw [d])]
        exact go ⟨a, Or.inl d⟩
      · rw [if_neg (fun w => d ((nI_eq (by omega) (by omega)).mp w))]
        by_cases d2 : sn v k = p
        · rw [if_pos (by rw [d2])]
          exact go ⟨a, Or.inr d2⟩
        · rw [if_neg (fun w => d2 ((nI_eq (by omega) (by omega)).mp w)), skip (fun w => w.1.2.elim d d2)]
          exact ⟨_, rfl, ⟨rfl, rfl, e3, R, X⟩, c2⟩
    · rw [if_pos ((M.a0 c2).mpr a), skip (fun w => a w.1.1)]
      exact ⟨_, rfl, ⟨rfl, rfl, e3, R, X⟩, c2⟩
theorem l_prov (C : CI v) (M : LM v ν) : ∃ q, f_L_provisional ν μ = some q ∧ ∀ p, p < nP v → q p = pv v p := by
  have hb := M.b
  obtain ⟨⟨z0, z1, z2, z3⟩, g1, e1, R1⟩ := l_17 (μ := μ) C M
  have e1 : z1 = 0 := e1
  subst e1
  have R1 : QR (nP v) (hci v (nP v)) z0 z2 z3 := R1
  have h77 : ∃ q, gloop (fun (t : ZT) => b_L_provisional_77 t.1 t.2.1 t.2.2.1 t.2.2.2 ν μ) 9 (z0, 0, z2, z3) = some q ∧ ∀ p, p < nP v → q p = pv v p := by
    refine gloop_relN (fun i (t : ZT) => t.2.1 = i ∧ i ≤ t.2.2.1 ∧ QR (nP v) (hbs v i) t.1 t.2.2.1 t.2.2.2) (fun (q : Nat → Int64) => ∀ p, p < nP v → q p = pv v p) (nP v) 9 (fun i t hi hR => ?_) (by omega) ⟨rfl, Nat.zero_le _, R1⟩
    obtain ⟨z0, y1, z2, z3⟩ := t
    obtain ⟨e1, e2, R⟩ := hR
    have e1 : y1 = i := e1
    have e2 : i ≤ z2 := e2
    subst e1
    have R : QR (nP v) (hbs v y1) z0 z2 z3 := R
    have I := hbs_I C y1
    have hc := I.c
    have hz := R.2.1
    show (∃ t, b_L_provisional_77 z0 y1 z2 z3 ν μ = _ ∧ _) ∨ ∃ r, b_L_provisional_77 z0 y1 z2 z3 ν μ = _ ∧ _
    unfold b_L_provisional_77
    rw [gckb ⟨by omega, by omega⟩]
    by_cases d : y1 = z2
    · right
      rw [if_neg (by rw [decide_eq_true d]; decide)]
      refine ⟨_, rfl, fun p hp => ?_⟩
      unfold pv
      rw [hbs_st C (N := 16) (show (hbs v y1).2.2.1 ≤ y1 by omega) hi (by omega)]
      exact R.1 p hp
    · left
      have hlt : y1 < (hbs v y1).2.2.1 := by omega
      obtain ⟨q1, q2⟩ := I.2.1 y1 hlt
      rw [if_pos (by rw [decide_eq_false d]; decide), R.2.2 y1 hlt, gckb ⟨⟨by omega, by omega⟩, by omega⟩]
      have es : hbs v (y1 + 1) = bs2 (fs v) (sn v) (nA v) (hvis v) ((hbs v y1).2.1 y1) (hbs v y1) (nN v) := by
        rw [hbs_s, if_pos hlt]
      have le := bs2_le (f := fs v) (s := sn v) (A := nA v) (vis := hvis v) ((hbs v y1).2.1 y1) (hbs v y1) (nN v)
      obtain ⟨⟨w0, w1, w2, w3⟩, g2, e3, R2⟩ := l_98 (μ := μ) C M I (hbs_X C y1) q1 q2 (z1 := y1 + 1) (by omega) R
      have e3 : w1 = y1 + 1 := e3
      subst e3
      have R2 : QR (nP v) (bs2 (fs v) (sn v) (nA v) (hvis v) ((hbs v y1).2.1 y1) (hbs v y1) (nN v)) w0 w2 w3 := R2
      rw [g2, Option.bind_some]
      refine ⟨_, rfl, ⟨rfl, ?_, by rw [es]; exact R2⟩, by omega⟩
      show y1 + 1 ≤ w2
      have := R2.2.1
      have := le.1
      omega
  obtain ⟨q, g2, hq⟩ := h77
  refine ⟨q, ?_, hq⟩
  unfold f_L_provisional
  rw [g1, Option.bind_some, show gloop (fun (t : ZT) => b_L_provisional_77 t.1 t.2.1 t.2.2.1 t.2.2.2 ν μ) 9 (z0, 0, z2, z3) = _ from g2]
  rfl
end PRV

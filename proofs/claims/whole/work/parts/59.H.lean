/-! the model carries heights -/
theorem ge16 {i : Nat} (h : i < 16) : ¬ (16 : Int32) ≤ nI i := nI_ge (b := 16) h (by decide)
section MCC
variable {v : Nat → Nat → Int32} {μ : gM}
theorem m_acr (M : MO v μ) {k p : Nat} (hk : k < nN v) (hp : p < 2 ^ 31) : f_X8_otherOf (nI k) (nI p) μ = some (nI (brO (fs v) (sn v) k p)) := m_otherOf M hk hp
theorem held_ge (C : CI v) {p : Nat} (hp : p < nP v) : (0 ≤ v 5 p) ↔ v 5 p ≠ -1 := by
  have z : (0 : Int32).toInt = 0 := by decide
  have z1 : (-1 : Int32).toInt = -1 := by decide
  rcases C.2.2.2.2.1 p hp with h | h
  · rw [h]; exact ⟨fun q => absurd q (by decide), fun q => absurd rfl q⟩
  · rw [Int32.le_iff_toInt_le, z]
    exact ⟨fun _ q => by
      have h1 := h.1
      rw [q, z1] at h1
      omega, fun _ => h.1⟩
theorem m_lay (M : MO v μ) : ∃ ν, f_X8_layProvisional μ = some ν ∧ Fq μ ν ∧ ∀ p, p < nP v → gl ν 76 p = pv v p := by
  have hb := M.1.b
  have H0 := hci_I M.1
  obtain ⟨r, h1, c1, F1, R1⟩ := gloop_rel (body := fun t => b_X8_layProvisional_4 t.1 t.2.1 t.2.2) (fun i t => i ≤ 16 ∧ t.1 = nI (hci v (min i (nP v))).2.2.1 ∧ t.2.1 = nI i ∧ Fq μ t.2.2 ∧ HR v 76 70 (min i (nP v)) (hci v (min i (nP v))) t.2.2) (fun r => r.1 = nI (hci v (nP v)).2.2.1 ∧ Fq μ r.2 ∧ HR v 76 70 (nP v) (hci v (nP v)) r.2) 16 (fun i t hi hR => by
    obtain ⟨x, y, ν⟩ := t
    obtain ⟨-, e1, e2, F, R⟩ := hR
    have e1 : x = nI (hci v (min i (nP v))).2.2.1 := e1
    have e2 : y = nI i := e2
    subst e1 e2
    replace F : Fq μ ν := F
    replace R : HR _ _ _ _ _ ν := R
    show (∃ t, b_X8_layProvisional_4 (nI (hci v (min i (nP v))).2.2.1) (nI i) ν = _ ∧ _) ∨ ∃ r, b_X8_layProvisional_4 _ _ ν = _ ∧ _
    unfold b_X8_layProvisional_4
    by_cases c : i < 16
    · left
      have F2 : Fq μ (sl ν 76 i (-9223372036854775808)) := ⟨F.1.sl rfl, F.2⟩
      have hcn := (H0 (min i (nP v)) (by omega)).2.2.2
      rw [if_neg (ge16 c)]
      simp (disch := omega) only [gck, nI_clamp, n6, nI_add, nI_1]
      rw [m_cP (M.fr F2.1), Option.bind_some]
      by_cases c2 : i < nP v
      · have em : min i (nP v) = i := by omega
        have em1 : min (i + 1) (nP v) = i + 1 := by omega
        rw [em] at R ⊢
        rw [em1]
        have hm : (hci v i).1 i = false := by
          cases q : (hci v i).1 i with
          | false => rfl
          | true => exact absurd (((H0 i (by omega)).2.2.1 i).mp q).1 (Nat.lt_irrefl _)
        rw [if_neg (nI_ge c2 (by omega))]
        have e5 : gi (sl ν 76 i (-9223372036854775808)) 61 (6 + i) = v 5 i := (M.fr F2.1).2.1.2.2.1 i c2
        rw [e5]
        by_cases e : v 5 i = -1
        · rw [if_neg (fun w => (held_ge M.1 c2).mp w e)]
          refine ⟨_, rfl, ⟨by omega, ?_, rfl, F2, ?_, ?_⟩, c⟩
          · show nI _ = nI (hci v (i + 1)).2.2.1
            rw [show hci v (i + 1) = hci v i from if_pos e]
          · intro p hp
            show gl (sl ν 76 i _) 76 p = (hci v (i + 1)).2.2.2 p
            rw [show hci v (i + 1) = hci v i from if_pos e, gl_sl]
            by_cases q : p = i
            · rw [if_pos ⟨rfl, q⟩, q, (H0 i (by omega)).2.1.1 i hm]
            · rw [if_neg (fun w => q w.2)]; exact R.1 p (by omega)
          · rw [show hci v (i + 1) = hci v i from if_pos e]; exact R.2
        · rw [if_pos ((held_ge M.1 c2).mpr e)]
          refine ⟨_, rfl, ⟨by omega, ?_, rfl, ⟨(F2.1.sl rfl).si rfl, F2.2⟩, ?_⟩, c⟩
          · rw [show hci v (i + 1) = _ from if_neg e]
          · rw [show hci v (i + 1) = _ from if_neg e]
            refine ⟨fun p hp => ?_, (HR_step (v := v) (x := (100 : Int64) * (v 5 i).toInt64) (o := i) (μ := sl ν 76 i (-9223372036854775808)) (i := i) ⟨fun p hp => (gl_sl.trans (if_neg (fun w => by omega))).trans (R.1 p hp), R.2⟩).2⟩
            show gl (si (sl (sl ν 76 i _) 76 i _) 70 _ _) 76 p = uN (hci v i).2.2.2 i _ p
            rw [gl_si, gl_sl]
            by_cases q : p = i
            · rw [if_pos ⟨rfl, q⟩, q, uN_s]
            · rw [if_neg (fun w => q w.2), uN_n q, gl_sl, if_neg (fun w => q w.2)]
              exact R.1 p (by omega)
      · have em : min i (nP v) = nP v := by omega
        have em1 : min (i + 1) (nP v) = nP v := by omega
        rw [em] at R ⊢
        rw [em1, if_pos (nI_le (by omega) (by omega))]
        exact ⟨_, rfl, ⟨by omega, rfl, rfl, F2, fun p hp => (gl_sl.trans (if_neg (fun w => by omega))).trans (R.1 p hp), R.2⟩, c⟩
    · right
      have e : i = 16 := by omega
      subst e
      have em : min 16 (nP v) = nP v := by omega
      rw [em] at R ⊢
      exact ⟨_, if_pos (show (16 : Int32) ≤ nI 16 by decide), rfl, F, R⟩) (by unfold gFuel; omega) (s0 := (nI 0, nI 0, μ)) (by
        have em : min 0 (nP v) = 0 := by omega
        rw [em]
        exact ⟨by omega, rfl, rfl, ⟨Fr.rf μ, rfl⟩, fun p hp => absurd hp (by omega), fun j hj => absurd hj (Nat.not_lt_zero _)⟩)
  obtain ⟨x, ν1⟩ := r
  have c1 : x = nI (hci v (nP v)).2.2.1 := c1
  subst c1
  obtain ⟨ν, h2, F2, R2⟩ := gloop_rel (body := fun t => b_X8_layProvisional_81 t.1 t.2.1 t.2.2) (fun i t => i ≤ nP v ∧ t.1 = nI (hbs v i).2.2.1 ∧ t.2.1 = nI i ∧ Fq μ t.2.2 ∧ HR v 76 70 (nP v) (hbs v i) t.2.2) (fun r => Fq μ r ∧ ∀ p, p < nP v → gl r 76 p = pv v p) (nP v) (fun i t hi hR => by
    obtain ⟨x, y, ν⟩ := t
    obtain ⟨-, e1, e2, F, R⟩ := hR
    have e1 : x = nI (hbs v i).2.2.1 := e1
    have e2 : y = nI i := e2
    subst e1 e2
    replace F : Fq μ ν := F
    replace R : HR _ _ _ _ _ ν := R
    have I := hbs_I M.1 i
    have hcc := I.c
    have stop : (hbs v i).2.2.1 ≤ i → ∀ p, p < nP v → gl ν 76 p = pv v p := fun hs p hp => by
      unfold pv
      rw [hbs_st M.1 (N := 16) hs hi (by omega)]
      exact R.1 p hp
    show (∃ t, b_X8_layProvisional_81 (nI (hbs v i).2.2.1) (nI i) ν = _ ∧ _) ∨ ∃ r, b_X8_layProvisional_81 _ _ ν = _ ∧ _
    unfold b_X8_layProvisional_81
    by_cases d : (hbs v i).2.2.1 ≤ i
    · right
      exact ⟨_, if_pos (nI_le d (by omega)), F, stop d⟩
    · left
      rw [if_neg (nI_ge (by omega) (by omega)), gck (by omega) (by decide), nI_clamp (by omega), R.2 i (by omega)]
      have hq := I.2.1 i (by omega)
      obtain ⟨p, hp⟩ : ∃ p, p = (hbs v i).2.1 i := ⟨_, rfl⟩
      rw [← hp] at hq ⊢
      have G : ∃ r, gloop (fun t => b_X8_layProvisional_96 (nI i) (nI p) t.1 t.2.1 t.2.2) gFuel (nI (hbs v i).2.2.1, nI 0, ν) = some r ∧ (r.1 = nI (hbs v (i + 1)).2.2.1 ∧ Fq μ r.2 ∧ HR v 76 70 (nP v) (hbs v (i + 1)) r.2) := by
        have es : hbs v (i + 1) = bs2 (fs v) (sn v) (nA v) (hvis v) p (hbs v i) (nN v) := by
          rw [hbs_s, if_pos (by omega), ← hp]
        refine gloop_rel (σ := Int32 × Int32 × gM) (fun k t => t.1 = nI (bs2 (fs v) (sn v) (nA v) (hvis v) p (hbs v i) k).2.2.1 ∧ t.2.1 = nI k ∧ Fq μ t.2.2 ∧ HR v 76 70 (nP v) (bs2 (fs v) (sn v) (nA v) (hvis v) p (hbs v i) k) t.2.2 ∧ HX v (bs2 (fs v) (sn v) (nA v) (hvis v) p (hbs v i) k)) _ (nN v) (fun k t hk hR => ?_) (by unfold gFuel; omega) ⟨rfl, rfl, F, R, hbs_X M.1 i⟩
        obtain ⟨x, y, ν⟩ := t
        obtain ⟨e1, e2, F, R, X⟩ := hR
        have e1 : x = nI (bs2 (fs v) (sn v) (nA v) (hvis v) p (hbs v i) k).2.2.1 := e1
        have e2 : y = nI k := e2
        subst e1 e2
        replace F : Fq μ ν := F
        replace R : HR _ _ _ _ _ ν := R
        have D := M.fr F.1
        have I2 := bs2_I (A := nA v) (vis := hvis v) (p := p) M.1.g I k hk
        have hpm := (bs2_le (f := fs v) (s := sn v) (A := nA v) (vis := hvis v) p (hbs v i) k).2.2 p hq.2
        obtain ⟨T, hT⟩ : ∃ T, T = bs2 (fs v) (sn v) (nA v) (hvis v) p (hbs v i) k := ⟨_, rfl⟩
        have hc2 := I2.c
        rw [← hT] at R X I2 hpm hc2 ⊢
        show (∃ t, b_X8_layProvisional_96 (nI i) (nI p) (nI T.2.2.1) (nI k) ν = _ ∧ _) ∨ ∃ r, b_X8_layProvisional_96 _ _ _ _ ν = _ ∧ _
        unfold b_X8_layProvisional_96
        rw [m_cN D, Option.bind_some]
        by_cases c2 : k < nN v
        · left
          rw [if_neg (nI_ge c2 (by omega)), m_touches D c2 (by omega), Option.bind_some, nI_1]
          have s1 : bs2 (fs v) (sn v) (nA v) (hvis v) p (hbs v i) (k + 1) = bs1 (fs v) (sn v) (nA v) (hvis v) p k T := by rw [hT]; rfl
          have ho := brO_lt (p := p) (M.1.g k c2)
          rw [s1]
          unfold bs1
          by_cases t1 : brT (fs v) (sn v) (nA v) k p
          · rw [decide_eq_true (p := (nA v).testBit k = true ∧ _) t1, if_neg (by decide), m_acr D c2 (by omega), Option.bind_some, Option.bind_some, m_riseFrom D c2 (by omega), Option.bind_some]
            by_cases t2 : T.1 (brO (fs v) (sn v) k p) = false
            · have room := I2.room ho t2
              have tt : brT (fs v) (sn v) (nA v) k p ∧ T.1 (brO (fs v) (sn v) k p) = false := ⟨t1, t2⟩
              simp (disch := omega) only [gck, nI_clamp, nI_1]
              rw [m_acr (D.fr ((Fr.rf ν).sl rfl)) c2 (by omega), Option.bind_some]
              try simp (disch := omega) only [gck, nI_clamp, nI_1]
              rw [R.1 _ ho, R.1 p (by omega), if_pos ((X.m (by omega) _).mpr t2), if_pos tt]
              exact ⟨_, rfl, ⟨rfl, rfl, ⟨(F.1.sl rfl).si rfl, F.2⟩, HR_step (x := T.2.2.2 p + (rfr v p k).toInt64) R, HX_step M.1 I2 X c2 hpm t2⟩, c2⟩
            · simp (disch := omega) only [gck, nI_clamp, nI_1]
              rw [R.1 _ ho, if_neg (fun w => t2 ((X.m (by omega) _).mp w)), if_neg (show ¬ (brT (fs v) (sn v) (nA v) k p ∧ T.1 (brO (fs v) (sn v) k p) = false) from fun w => t2 w.2)]
              exact ⟨_, rfl, ⟨rfl, rfl, F, R, X⟩, c2⟩
          · rw [decide_eq_false (p := (nA v).testBit k = true ∧ _) t1, if_pos (show b2i false = 0 from rfl), if_neg (show ¬ (brT (fs v) (sn v) (nA v) k p ∧ T.1 (brO (fs v) (sn v) k p) = false) from fun w => t1 w.1)]
            exact ⟨_, rfl, ⟨rfl, rfl, F, R, X⟩, c2⟩
        · right
          have : k = nN v := by omega
          subst this
          rw [if_pos (nI_le (Nat.le_refl _) (by omega)), es, ← hT]
          exact ⟨_, rfl, rfl, F, R⟩
      obtain ⟨⟨x, ν2⟩, h3, e3, F3, R3⟩ := G
      have e3 : x = nI (hbs v (i + 1)).2.2.1 := e3
      subst e3
      rw [show (0 : Int32) = nI 0 from rfl, h3, Option.bind_some, nI_1]
      exact ⟨_, rfl, ⟨by omega, rfl, rfl, F3, R3⟩, by omega⟩) (by unfold gFuel; omega) (s0 := (nI (hci v (nP v)).2.2.1, nI 0, ν1)) ⟨by omega, rfl, rfl, F1, R1⟩
  refine ⟨ν, ?_, F2, R2⟩
  unfold f_X8_layProvisional
  rw [show gloop (fun t => b_X8_layProvisional_4 t.1 t.2.1 t.2.2) gFuel ((0 : Int32), (0 : Int32), μ) = _ from h1, Option.bind_some]
  rw [show gloop (fun t => b_X8_layProvisional_81 t.1 t.2.1 t.2.2) gFuel (nI (hci v (nP v)).2.2.1, (0 : Int32), ν1) = _ from h2]
  rfl
end MCC
/-- an operation that throws for a bad index only; both sides may work in cells that don't count -/
def wrapU (fC : Option (Option Int32 × gM)) : Option (Int32 × gM) := Option.bind fC (fun q1 => Option.elim q1.1 (some ((1 : Int32), q1.2)) (fun v2 => gchk (gIn (0 : Int32) 1) (some ((0 : Int32), (sl q1.2 77 (0 : Int32).toNatClampNeg v2.toInt64)))))
def wrapV (fC : Option (Option Int64 × gM)) : Option (Int32 × gM) := Option.bind fC (fun q1 => Option.elim q1.1 (some ((1 : Int32), q1.2)) (fun v2 => gchk (gIn (0 : Int32) 1) (some ((0 : Int32), (sl q1.2 77 (0 : Int32).toNatClampNeg v2)))))
theorem workI {μ : gM} (R : Rel μ) {fC : Option (Option Int32 × gM)} {fM : gM → Option (Int32 × gM)} (h : (∃ μ1, fC = some (none, μ1) ∧ Fr μ μ1 ∧ ∃ w μ2, fM μ1 = some (w, μ2) ∧ Fr μ1 μ2 ∧ gi μ2 60 6 = 1) ∨ ∃ w μ1, fC = some (some w, μ1) ∧ Fr μ μ1 ∧ ∀ ν, MO (nv 34 μ) ν → ∃ μ2, fM ν = some (w, μ2) ∧ Fr ν μ2 ∧ gi μ2 60 6 = 0) : simOK μ (caseI (wrapU fC) fM) := by
  rcases h with ⟨μ1, h1, F1, w, μ2, h2, F2, h3⟩ | ⟨w, μ1, h1, F1, h2⟩
  · exact caseI_bad (μ1 := μ1) (by rw [h1]; rfl) h2 h3 (R.fr (F1.tr F2))
  · have R1 := R.fr F1
    have M1 : MO (nv 34 μ) (sl μ1 77 0 w.toInt64) := by
      have := (R1.sl77 0 w.toInt64).mo
      rwa [show nv 34 (sl μ1 77 0 w.toInt64) = nv 34 μ from (show _ = nv 34 μ1 from rfl).trans (Fr_nv F1)] at this
    obtain ⟨μ2, h3, F2, h4⟩ := h2 _ M1
    exact caseI_good (μ1 := μ1) (by rw [h1]; rfl) h3 h4 F2 R1
theorem workJ {μ : gM} (R : Rel μ) {fC : Option (Option Int64 × gM)} {fM : gM → Option (Int64 × gM)} (h : (∃ μ1, fC = some (none, μ1) ∧ Fr μ μ1 ∧ ∃ w μ2, fM μ1 = some (w, μ2) ∧ Fr μ1 μ2 ∧ gi μ2 60 6 = 1) ∨ ∃ w μ1, fC = some (some w, μ1) ∧ Fr μ μ1 ∧ ∀ ν, MO (nv 34 μ) ν → ∃ μ2, fM ν = some (w, μ2) ∧ Fr ν μ2 ∧ gi μ2 60 6 = 0) : simOK μ (caseJ (wrapV fC) fM) := by
  rcases h with ⟨μ1, h1, F1, w, μ2, h2, F2, h3⟩ | ⟨w, μ1, h1, F1, h2⟩
  · exact caseJ_bad (μ1 := μ1) (by rw [h1]; rfl) h2 h3 (R.fr (F1.tr F2))
  · have R1 := R.fr F1
    have M1 : MO (nv 34 μ) (sl μ1 77 0 w) := by
      have := (R1.sl77 0 w).mo
      rwa [show nv 34 (sl μ1 77 0 w) = nv 34 μ from (show _ = nv 34 μ1 from rfl).trans (Fr_nv F1)] at this
    obtain ⟨μ2, h3, F2, h4⟩ := h2 _ M1
    exact caseJ_good (μ1 := μ1) (by rw [h1]; rfl) h3 h4 F2 R1
/-- an operation that answers and works in cells that don't count -/
theorem workE {α : Type} [DecidableEq α] {μ : gM} (R : Rel μ) {fC : Option (α × gM)} {fM : gM → Option (α × gM)} (h : ∃ w μ1, fC = some (w, μ1) ∧ Fr μ μ1 ∧ ∀ ν, MO (nv 34 μ) ν → ∃ μ2, fM ν = some (w, μ2) ∧ Fr ν μ2) : simOK μ (Option.bind fC (fun q1 => Option.bind (fM q1.2) (fun q2 => if (q1.1 = q2.1) then some q2.2 else none))) := by
  obtain ⟨w, μ1, h1, F1, h2⟩ := h
  have M1 : MO (nv 34 μ) μ1 := by
    have := (R.fr F1).mo
    rwa [Fr_nv F1] at this
  obtain ⟨μ2, h3, F2⟩ := h2 _ M1
  refine ⟨μ2, ?_, R.fr (F1.tr F2)⟩
  subst h1
  show Option.bind (fM μ1) _ = _
  rw [h3]
  exact if_pos rfl

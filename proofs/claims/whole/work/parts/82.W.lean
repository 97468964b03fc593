section TW
variable {v : Nat → Nat → Int32} {μ : gM}
theorem subE {a d l : Nat} (ha : a < 2 ^ 30) (hd : d < 2 ^ 30) (hl : l < 2 ^ 30) : (nI a = nI d - nI l) ↔ a + l = d := by
  constructor
  · intro h
    have := congrArg Int32.toInt h
    rw [pk_sub_toInt hd hl, nI_toInt (by omega)] at this
    omega
  · intro h
    rw [← h, pk_sub (by omega)]
    exact congrArg nI (by omega)
theorem nbr_d (C : CI v) {s h d k : Nat} {D : Nat → Option Nat} (I : DI v s D) (A : alS v s D) (hd : D h = some d) (hk : k < nN v) (ht : tT v k h) : ∃ a, D (oO v k h) = some a := by
  obtain ⟨i, hi⟩ := (I.2 h d hd).2.1
  have b := brO_brO ht (C.line hk).2.2.2.2.1
  obtain ⟨a, ha, -⟩ := A (oO v k h) (d + ln v k) ⟨i + 1, k, hk, b.1, d, by rw [show oO v k (oO v k h) = h from b.2.1]; exact hi, rfl⟩
  exact ⟨a, ha⟩
theorem c_back (C : CO v μ) {s h d : Nat} {D : Nat → Option Nat} (I : DI v s D) (hd : D h = some d) (H : CD v 4 D μ) (L : CLn v μ) : f_X6_lineBack (nI h) μ = some (oI (bkN v D h)) := by
  have hb := C.1.b
  have hh := (I.2 h d hd).1
  have hd2 := I.b C.1 hd
  have step : ∀ k, k < nN v → b_X6_lineBack_2 (nI h) (nI k) μ = if bkP v D h k = true then some (.inr (.inr (nI k))) else some (.inl (nI (k + 1))) := fun k hk => by
    have ho := brO_lt (p := h) (C.1.g k hk)
    have ho2 : oO v k h < nP v := ho
    have hl := (C.1.line hk).lnb
    unfold b_X6_lineBack_2
    rw [C.N, if_neg (nI_ge hk (by omega)), C.A, c_acr C hk C.1.A31 (by omega), Option.bind_some, nI_1]
    by_cases t : tT v k h
    · rw [show (if brT (fs v) (sn v) (nA v) k h then nI (brO (fs v) (sn v) k h) else -1) = nI (oO v k h) from if_pos t, if_neg (m1_ne (by omega))]
      simp (disch := omega) only [gck, nI_clamp]
      rw [H _ ho2, H h hh, L k hk, hd]
      cases e : D (oO v k h) with
      | none =>
        rw [if_pos (show oI none = -1 from rfl), if_neg (fun w => by
          obtain ⟨-, a, d', h1, -⟩ := bkP_t.mp w
          rw [e] at h1; cases h1)]
      | some a =>
        have ha := I.b C.1 e
        rw [show oI (some a) = nI a from rfl, show oI (some d) = nI d from rfl, if_neg (m1_ne (by omega))]
        by_cases c : a + ln v k = d
        · rw [if_pos ((subE (by omega) (by omega) (by omega)).mpr c), if_pos (bkP_t.mpr ⟨t, a, d, e, hd, c⟩)]
        · rw [if_neg (fun w => c ((subE (by omega) (by omega) (by omega)).mp w)), if_neg (fun w => by
            obtain ⟨-, a', d', h1, h2, h3⟩ := bkP_t.mp w
            rw [e] at h1
            rw [hd] at h2
            cases h1; cases h2
            exact c h3)]
    · rw [show (if brT (fs v) (sn v) (nA v) k h then nI (brO (fs v) (sn v) k h) else -1) = -1 from if_neg t, if_pos rfl, if_neg (fun w => t (bkP_t.mp w).1)]
  have g := gloop_find (P := bkP v D h) (body := fun t => b_X6_lineBack_2 (nI h) t μ) (nN v) (by omega) (fun k hk e => by
    show b_X6_lineBack_2 (nI h) (nI k) μ = _
    rw [step k hk, if_neg (by rw [e]; decide)]) (fun k hk e => by
    show b_X6_lineBack_2 (nI h) (nI k) μ = _
    rw [step k hk, if_pos e]) (by
    show b_X6_lineBack_2 (nI h) (nI (nN v)) μ = _
    unfold b_X6_lineBack_2
    rw [C.N, if_pos (nI_le (Nat.le_refl _) (by omega))])
  unfold f_X6_lineBack
  rw [show (0 : Int32) = nI 0 from rfl, g, Option.bind_some]
  unfold bkN
  cases fstN (bkP v D h) (nN v) <;> rfl
theorem m_back (C : MO v μ) {s h d k : Nat} {D : Nat → Option Nat} (I : DI v s D) (A : alS v s D) (hd : D h = some d) (H : CD v 69 D μ) (x : Int32) (hk : k < nN v) (hb1 : bkP v D h k = true) (hl : ∀ j, j < k → bkP v D h j = false) : gloop (fun t => b_X8_layWay_38 x (nI h) t μ) gFuel (nI 0) = some (nI k) := by
  have hb := C.1.b
  have hh := (I.2 h d hd).1
  have hd2 := I.b C.1 hd
  have step : ∀ j, j < nN v → b_X8_layWay_38 x (nI h) (nI j) μ = if bkP v D h j = true then some (.inr (nI j)) else some (.inl (nI (j + 1))) := fun k hk => by
    have ho := brO_lt (p := h) (C.1.g k hk)
    have ho2 : oO v k h < nP v := ho
    have hl := (C.1.line hk).lnb
    unfold b_X8_layWay_38
    rw [m_touches C hk (by omega), Option.bind_some, nI_1]
    by_cases t : tT v k h
    · rw [decide_eq_true (p := (nA v).testBit k = true ∧ _) t, if_neg (by decide), m_acr C hk (by omega), Option.bind_some, m_length C hk, Option.bind_some]
      simp (disch := omega) only [gck, nI_clamp]
      obtain ⟨a, e⟩ := nbr_d C.1 I A hd hk t
      have ha := I.b C.1 e
      rw [H _ ho, H h hh, hd, show D (brO (fs v) (sn v) k h) = some a from e, show oI (some a) = nI a from rfl, show oI (some d) = nI d from rfl]
      by_cases c : a + ln v k = d
      · rw [if_pos ((subE (by omega) (by omega) (by omega)).mpr c), if_pos (bkP_t.mpr ⟨t, a, d, e, hd, c⟩)]
      · rw [if_neg (fun w => c ((subE (by omega) (by omega) (by omega)).mp w)), if_neg (fun w => by
          obtain ⟨-, a', d', h1, h2, h3⟩ := bkP_t.mp w
          rw [e] at h1
          rw [hd] at h2
          cases h1; cases h2
          exact c h3)]
    · rw [decide_eq_false (p := (nA v).testBit k = true ∧ _) t, if_pos (show b2i false = 0 from rfl), if_neg (fun w => t (bkP_t.mp w).1)]
  refine gloop_run (fun i => nI i) k (fun i hi => ?_) ?_ gFuel (by unfold gFuel; omega)
  · show b_X8_layWay_38 x (nI h) (nI i) μ = _
    rw [step i (by omega), if_neg (by rw [hl i hi]; decide)]
  · show b_X8_layWay_38 x (nI h) (nI k) μ = _
    rw [step k hk, if_pos hb1]
def clB (D : Nat → Option Nat) (d q : Nat) : Bool := match D q with
  | some a => decide (a < d)
  | none => false
theorem cl_lt {D : Nat → Option Nat} {n d e o : Nat} (ho : o < n) (he : D o = some e) (h : e < d) : cntB (clB D e) n < cntB (clB D d) n :=
  cntB_st (j := o) (by unfold clB; rw [he]; exact decide_eq_false (Nat.lt_irrefl _)) (by unfold clB; rw [he]; exact decide_eq_true h) n ho (fun q _ hq => by
    unfold clB at hq ⊢
    cases c : D q with
    | none => rw [c] at hq; cases hq
    | some a =>
      rw [c] at hq
      exact decide_eq_true (Nat.lt_trans (of_decide_eq_true hq) h))
theorem cl_top {D : Nat → Option Nat} {n d t : Nat} (ht : t < n) (hd : D t = some d) : cntB (clB D d) n + 1 ≤ n := by
  have := cntB_st (M := clB D d) (N := fun _ => true) (j := t) (by unfold clB; rw [hd]; exact decide_eq_false (Nat.lt_irrefl _)) rfl n ht (fun _ _ _ => rfl)
  have h2 := cntB_le (fun _ => true) n
  omega
theorem c_trace (C : CO v μ) {s t : Nat} (hs : s < nP v) (ht : t < nP v) : ∃ ν D, f_X6_trace (nI s) (nI t) μ = some ν ∧ Fr μ ν ∧ DI v s D ∧ alS v s D ∧ CD v 4 D ν ∧ (gi ν 3 2, gi ν 3 3) = if D t = none then (0, 0) else wyf v D s 16 t (0, 0) := by
  have hb := C.1.b
  obtain ⟨ρ, D, e1, I, A, H, L, F⟩ := c_measure C hs
  obtain ⟨ρ1, hρ⟩ : ∃ ρ1, ρ1 = si (si ρ 3 2 (0 : Int32)) 3 3 (0 : Int32) := ⟨_, rfl⟩
  have F1 : Fr μ ρ1 := by rw [hρ]; exact (F.si rfl).si rfl
  have H1 : CD v 4 D ρ1 := fun q hq => by rw [hρ, gi_sik (by decide), gi_sik (by decide)]; exact H q hq
  have L1 : CLn v ρ1 := fun q hq => by rw [hρ, gi_sik (by decide), gi_sik (by decide)]; exact L q hq
  have z1 : (gi ρ1 3 2, gi ρ1 3 3) = ((0 : Int32), (0 : Int32)) := by
    rw [hρ, gi_sij (by decide), gi_sii, gi_sii]
  unfold f_X6_trace
  rw [e1, Option.bind_some, ← hρ, gck (by omega) (by decide), nI_clamp (by omega), H1 t ht]
  cases e : D t with
  | none =>
    rw [if_pos (show oI none = -1 from rfl)]
    exact ⟨ρ1, D, rfl, F1, I, A, H1, by rw [e, if_pos rfl]; exact z1⟩
  | some d =>
    have hd := I.b C.1 e
    rw [if_neg (show ¬ oI (some d) = -1 from m1_ne (by omega))]
    obtain ⟨r, h1, ν, hr, F2, H2, W2⟩ := gloop_rel (body := fun q => b_X6_trace_33 (nI s) q.1 q.2.1 q.2.2) (fun i q => ∃ h d X, q.1 = nI h ∧ q.2.1 = nI i ∧ D h = some d ∧ (gi q.2.2 3 2, gi q.2.2 3 3) = X ∧ CD v 4 D q.2.2 ∧ CLn v q.2.2 ∧ Fr μ q.2.2 ∧ wyf v D s (16 - i) h X = wyf v D s 16 t (0, 0) ∧ i + (cntB (clB D d) (nP v) + 1) ≤ nP v) (fun r => ∃ ν, (r = .inl ν ∨ r = .inr ν) ∧ Fr μ ν ∧ CD v 4 D ν ∧ (gi ν 3 2, gi ν 3 3) = wyf v D s 16 t (0, 0)) (nP v) (fun i q hi hR => by
      obtain ⟨x, y, ν⟩ := q
      obtain ⟨h, d, X, e1, e2, ed, hX, H, L, F, W, hc⟩ := hR
      have e1 : x = nI h := e1
      have e2 : y = nI i := e2
      subst e1 e2
      replace F : Fr μ ν := F
      replace H : CD v 4 D ν := H
      replace L : CLn v ν := L
      replace hX : (gi ν 3 2, gi ν 3 3) = X := hX
      have E := C.fr F
      have hh := (I.2 h d ed).1
      show (∃ t, b_X6_trace_33 (nI s) (nI h) (nI i) ν = _ ∧ _) ∨ ∃ r, b_X6_trace_33 _ _ _ ν = _ ∧ _
      unfold b_X6_trace_33
      rw [E.P, if_neg (nI_ge (show i < nP v by omega) (by omega))]
      have ef : 16 - i = (16 - (i + 1)) + 1 := by omega
      by_cases c : h = s
      · right
        refine ⟨_, if_pos (by rw [c]), ν, Or.inl rfl, F, H, ?_⟩
        rw [hX, ← W, ef]
        show X = if h = s then X else _
        rw [if_pos c]
      · left
        obtain ⟨k, b1, b2, b3, ⟨f, b4, b5⟩, b6⟩ := bkN_ex C.1 I A ed c
        have ho := brO_lt (p := h) (C.1.g k b2)
        have ho2 : oO v k h < nP v := ho
        have hlb := (C.1.line b2).lnb
        rw [if_neg (fun w => c ((nI_eq (by omega) (by omega)).mp w)), c_back E I ed H L, Option.bind_some, b1, show oI (some k) = nI k from rfl, if_neg (m1_ne (by omega)), E.A, c_acr E b2 C.1.A31 (by omega), Option.bind_some, show (if brT (fs v) (sn v) (nA v) k h then nI (brO (fs v) (sn v) k h) else -1) = nI (oO v k h) from if_pos b3, c_riseFrom (E.fr ((Fr.rf ν).si rfl)) b2 (by omega), Option.bind_some, nI_1]
        refine ⟨_, rfl, ⟨oO v k h, f, (X.1 ||| ((1 : Int32) <<< (nI k &&& 31)), X.2 + rfr v (oO v k h) k), rfl, rfl, b4, ?_, fun q hq => ?_, fun q hq => ?_, (F.si rfl).si rfl, ?_, ?_⟩, by omega⟩
        · rw [← hX]
          show (gi (si (si ν 3 2 _) 3 3 _) 3 2, gi (si (si ν 3 2 _) 3 3 _) 3 3) = _
          rw [gi_sij (by decide), gi_sii, gi_sii, gi_sij (by decide)]
          rfl
        · exact (gi_sik (by decide)).trans ((gi_sik (by decide)).trans (H q hq))
        · exact (gi_sik (by decide)).trans ((gi_sik (by decide)).trans (L q hq))
        · rw [← W, ef]
          show _ = if h = s then X else match bkN v D h with | none => X | some k => _
          rw [if_neg c, b1]
        · have := cl_lt (D := D) ho2 b4 (show f < d by omega)
          omega) (by unfold gFuel; omega) (s0 := (nI t, nI 0, ρ1)) ⟨t, d, (0, 0), rfl, rfl, e, z1, H1, L1, F1, rfl, by
        have := cl_top (D := D) ht e
        omega⟩
    refine ⟨ν, D, ?_, F2, I, A, H2, by rw [e, if_neg (show ¬ (some d : Option Nat) = none from fun w => by cases w)]; exact W2⟩
    rw [show gloop (fun q => b_X6_trace_33 (nI s) q.1 q.2.1 q.2.2) gFuel (nI t, (0 : Int32), ρ1) = _ from h1, Option.bind_some]
    rcases hr with h | h <;> rw [h] <;> rfl
theorem m_way (C : MO v μ) {s t : Nat} (hs : s < nP v) (ht : t < nP v) : ∃ ν D, f_X8_layWay (nI s) (nI t) μ = some ν ∧ Fq μ ν ∧ DI v s D ∧ alS v s D ∧ CD v 69 D ν ∧ (gi ν 60 22, gi ν 60 23) = if D t = none then (0, 0) else wyf v D s 16 t (0, 0) := by
  have hb := C.1.b
  obtain ⟨ρ, D, e1, I, A, H, F⟩ := m_layFar C hs
  obtain ⟨ρ1, hρ⟩ : ∃ ρ1, ρ1 = si (si ρ 60 22 (0 : Int32)) 60 23 (0 : Int32) := ⟨_, rfl⟩
  have F1 : Fq μ ρ1 := by rw [hρ]; exact ⟨(F.1.si rfl).si rfl, F.2⟩
  have H1 : CD v 69 D ρ1 := fun q hq => by rw [hρ, gi_sik (by decide), gi_sik (by decide)]; exact H q hq
  have z1 : (gi ρ1 60 22, gi ρ1 60 23) = ((0 : Int32), (0 : Int32)) := by
    rw [hρ, gi_sij (by decide), gi_sii, gi_sii]
  have loop : ∀ t0 d0, D t0 = some d0 → ∃ ν, gloop (fun q => b_X8_layWay_30 (nI s) q.1 q.2) gFuel (nI t0, ρ1) = some ν ∧ Fq μ ν ∧ CD v 69 D ν ∧ (gi ν 60 22, gi ν 60 23) = wyf v D s 16 t0 (0, 0) := fun t0 d0 e0 => by
    have ht0 := (I.2 t0 d0 e0).1
    obtain ⟨ν, h1, F2, H2, W2⟩ := gloop_rel (body := fun q => b_X8_layWay_30 (nI s) q.1 q.2) (fun i q => ∃ h d X, q.1 = nI h ∧ D h = some d ∧ (gi q.2 60 22, gi q.2 60 23) = X ∧ CD v 69 D q.2 ∧ Fq μ q.2 ∧ wyf v D s (16 - i) h X = wyf v D s 16 t0 (0, 0) ∧ i + (cntB (clB D d) (nP v) + 1) ≤ nP v) (fun ν => Fq μ ν ∧ CD v 69 D ν ∧ (gi ν 60 22, gi ν 60 23) = wyf v D s 16 t0 (0, 0)) (nP v) (fun i q hi hR => by
      obtain ⟨x, ν⟩ := q
      obtain ⟨h, d, X, e1, ed, hX, H, F, W, hc⟩ := hR
      have e1 : x = nI h := e1
      subst e1
      replace F : Fq μ ν := F
      replace H : CD v 69 D ν := H
      replace hX : (gi ν 60 22, gi ν 60 23) = X := hX
      have E := C.fr F.1
      have hh := (I.2 h d ed).1
      show (∃ t, b_X8_layWay_30 (nI s) (nI h) ν = _ ∧ _) ∨ ∃ r, b_X8_layWay_30 _ _ ν = _ ∧ _
      unfold b_X8_layWay_30
      have ef : 16 - i = (16 - (i + 1)) + 1 := by omega
      by_cases c : h = s
      · right
        refine ⟨_, if_pos (by rw [c]), F, H, ?_⟩
        rw [hX, ← W, ef]
        show X = if h = s then X else _
        rw [if_pos c]
      · left
        obtain ⟨k, b1, b2, b3, ⟨f, b4, b5⟩, b6⟩ := bkN_ex C.1 I A ed c
        have ho := brO_lt (p := h) (C.1.g k b2)
        have ho2 : oO v k h < nP v := ho
        have hlb := (C.1.line b2).lnb
        rw [if_neg (fun w => c ((nI_eq (by omega) (by omega)).mp w)), show gloop (fun t => b_X8_layWay_38 (nI s) (nI h) t ν) gFuel (0 : Int32) = some (nI k) from m_back E I A ed H (nI s) b2 (bkP_t.mpr ⟨b3, f, d, b4, ed, b5⟩) b6, Option.bind_some, m_acr (E.fr ((Fr.rf ν).si rfl)) b2 (by omega), Option.bind_some, m_riseFrom (E.fr ((Fr.rf ν).si rfl)) b2 (by omega), Option.bind_some]
        refine ⟨_, rfl, ⟨oO v k h, f, (X.1 ||| ((1 : Int32) <<< (nI k &&& 31)), X.2 + rfr v (oO v k h) k), rfl, b4, ?_, fun q hq => ?_, ⟨(F.1.si rfl).si rfl, F.2⟩, ?_, ?_⟩, by omega⟩
        · rw [← hX]
          show (gi (si (si ν 60 22 _) 60 23 _) 60 22, gi (si (si ν 60 22 _) 60 23 _) 60 23) = _
          rw [gi_sij (by decide), gi_sii, gi_sii, gi_sij (by decide)]
          rfl
        · exact (gi_sik (by decide)).trans ((gi_sik (by decide)).trans (H q hq))
        · rw [← W, ef]
          show _ = if h = s then X else match bkN v D h with | none => X | some k => _
          rw [if_neg c, b1]
        · have := cl_lt (D := D) ho2 b4 (show f < d by omega)
          omega) (by unfold gFuel; omega) (s0 := (nI t0, ρ1)) ⟨t0, d0, (0, 0), rfl, e0, z1, H1, F1, rfl, by
        have := cl_top (D := D) ht0 e0
        omega⟩
    exact ⟨ν, h1, F2, H2, W2⟩
  unfold f_X8_layWay j_X8_layWay_29
  rw [e1, Option.bind_some, ← hρ, gck (by omega) (by decide), nI_clamp (by omega), H1 t ht]
  cases e : D t with
  | none =>
    rw [if_neg (show ¬ 0 ≤ oI none by decide)]
    obtain ⟨ν, h1, F2, H2, W2⟩ := loop s 0 I.1
    refine ⟨ν, D, by rw [h1]; rfl, F2, I, A, H2, ?_⟩
    rw [W2, e, if_pos rfl]
    show (if s = s then ((0 : Int32), (0 : Int32)) else _) = _
    rw [if_pos rfl]
  | some d =>
    have hd := I.b C.1 e
    rw [if_pos (show 0 ≤ oI (some d) from nI_pos' (by omega))]
    obtain ⟨ν, h1, F2, H2, W2⟩ := loop t d e
    exact ⟨ν, D, by rw [h1]; rfl, F2, I, A, H2, by rw [W2, e, if_neg (show ¬ (some d : Option Nat) = none from fun w => by cases w)]⟩
end TW
section G10
variable {μ : gM}
theorem arePB {v : Nat → Nat → Int32} {ν : gM} (M : MO v ν) {x y : Int32} (h : (x < 0 ∨ nI (nP v) ≤ x) ∨ (∃ a, a < nP v ∧ x = nI a) ∧ (y < 0 ∨ nI (nP v) ≤ y)) : f_X8_arePoints x y ν = some false := by
  unfold f_X8_arePoints
  rcases h with h | ⟨⟨a, ha, rfl⟩, h⟩
  · rw [m_pointB M h]; rfl
  · rw [m_pointG M ha, Option.bind_some]; simp only [bT, if_false]; rw [m_pointB M h]; rfl
theorem arePG {v : Nat → Nat → Int32} {ν : gM} (M : MO v ν) {a b : Nat} (ha : a < nP v) (hb : b < nP v) : f_X8_arePoints (nI a) (nI b) ν = some true := by
  unfold f_X8_arePoints
  rw [m_pointG M ha, Option.bind_some]; simp only [bT, if_false]; rw [m_pointG M hb]; rfl
theorem pts (R : Rel μ) (s1 s2 : Int32) : ((s1 < 0 ∨ nI (nP (nv 34 μ)) ≤ s1) ∨ (∃ a, a < nP (nv 34 μ) ∧ s1 = nI a) ∧ (s2 < 0 ∨ nI (nP (nv 34 μ)) ≤ s2)) ∨ ∃ a b, a < nP (nv 34 μ) ∧ b < nP (nv 34 μ) ∧ s1 = nI a ∧ s2 = nI b := by
  have hb := R.1.b
  rcases ix3 s1 (n := nP (nv 34 μ)) (by omega) with h | ⟨a, ha, e⟩
  · exact Or.inl (Or.inl h)
  · rcases ix3 s2 (n := nP (nv 34 μ)) (by omega) with h | ⟨b, hbb, e2⟩
    · exact Or.inl (Or.inr ⟨⟨a, ha, e⟩, h⟩)
    · exact Or.inr ⟨a, b, ha, hbb, e, e2⟩
theorem sim_27 (s1 s2 : Int32) (R : Rel μ) : simOK μ (f_case_27 s1 s2 μ) := by
  have hb := R.1.b
  refine workI (fC := f_X7_distance s1 s2 μ) (fM := f_X8_distance s1 s2) R ?_
  rcases pts R s1 s2 with h | ⟨a, b, ha, hbb, rfl, rfl⟩
  · refine Or.inl ⟨μ, ?_, Fr.rf μ, 0, si μ 60 6 1, ?_, si60 1, gi_sii⟩
    · unfold f_X7_distance; rw [R.co.P]
      rcases h with h | ⟨⟨a, ha, rfl⟩, h⟩
      · rw [needB (by omega) h]; rfl
      · rw [needG (by omega) ha, Option.bind_some]
        show Option.bind (f_X7_needIndex s2 _ μ) _ = _
        rw [needB (by omega) h]; rfl
    · unfold f_X8_distance; rw [arePB R.mo h]; rfl
  · obtain ⟨ν1, D, e1, I1, A1, H1, L1, F1⟩ := c_measure R.co ha
    refine Or.inr ⟨oI (D b), ν1, ?_, F1, fun ν M => ?_⟩
    · unfold f_X7_distance; rw [R.co.P, needG (by omega) ha, Option.bind_some]
      show Option.bind (f_X7_needIndex (nI b) _ μ) _ = _
      rw [needG (by omega) hbb, Option.bind_some]
      show Option.bind (f_X6_measure (nI a) μ) _ = _
      rw [e1, Option.bind_some, gck (by omega) (by decide), nI_clamp (by omega), H1 b hbb]
    · obtain ⟨ν2, D2, e2, I2, A2, H2, F2⟩ := m_layFar (M.si6 0) ha
      refine ⟨ν2, ?_, (si60 0).tr F2.1, F2.2.trans gi_sii⟩
      unfold f_X8_distance; rw [arePG M ha hbb, Option.bind_some, failG, Option.bind_some]; simp only [bF, if_true]
      rw [e2, Option.bind_some, gck (by omega) (by decide), nI_clamp (by omega), H2 b hbb, alS_u I2 I1 A2 A1]
theorem sim_29 (s1 s2 : Int32) (R : Rel μ) : simOK μ (f_case_29 s1 s2 μ) := by
  have hb := R.1.b
  refine workI (fC := f_X7_wayBetween s1 s2 μ) (fM := f_X8_wayBetween s1 s2) R ?_
  rcases pts R s1 s2 with h | ⟨a, b, ha, hbb, rfl, rfl⟩
  · refine Or.inl ⟨μ, ?_, Fr.rf μ, 0, si μ 60 6 1, ?_, si60 1, gi_sii⟩
    · unfold f_X7_wayBetween; rw [R.co.P]
      rcases h with h | ⟨⟨a, ha, rfl⟩, h⟩
      · rw [needB (by omega) h]; rfl
      · rw [needG (by omega) ha, Option.bind_some]
        show Option.bind (f_X7_needIndex s2 _ μ) _ = _
        rw [needB (by omega) h]; rfl
    · unfold f_X8_wayBetween; rw [arePB R.mo h]; rfl
  · obtain ⟨ν1, D, e1, F1, I1, A1, H1, W1⟩ := c_trace R.co ha hbb
    refine Or.inr ⟨gi ν1 3 2, ν1, ?_, F1, fun ν M => ?_⟩
    · unfold f_X7_wayBetween; rw [R.co.P, needG (by omega) ha, Option.bind_some]
      show Option.bind (f_X7_needIndex (nI b) _ μ) _ = _
      rw [needG (by omega) hbb, Option.bind_some]
      show Option.bind (f_X6_trace (nI a) (nI b) μ) _ = _
      rw [e1]; rfl
    · obtain ⟨ν2, D2, e2, F2, I2, A2, H2, W2⟩ := m_way (M.si6 0) ha hbb
      refine ⟨ν2, ?_, (si60 0).tr F2.1, F2.2.trans gi_sii⟩
      rw [alS_u I2 I1 A2 A1, ← W1] at W2
      unfold f_X8_wayBetween; rw [arePG M ha hbb, Option.bind_some, failG, Option.bind_some]; simp only [bF, if_true]
      rw [e2, Option.bind_some, show gi ν2 60 22 = gi ν1 3 2 from congrArg Prod.fst W2]
theorem sim_28 (s1 s2 : Int32) (R : Rel μ) : simOK μ (f_case_28 s1 s2 μ) := by
  have hb := R.1.b
  refine workI (fC := f_X7_riseBetween s1 s2 μ) (fM := f_X8_riseBetween s1 s2) R ?_
  rcases pts R s1 s2 with h | ⟨a, b, ha, hbb, rfl, rfl⟩
  · refine Or.inl ⟨μ, ?_, Fr.rf μ, 0, si μ 60 6 1, ?_, si60 1, gi_sii⟩
    · unfold f_X7_riseBetween; rw [R.co.P]
      rcases h with h | ⟨⟨a, ha, rfl⟩, h⟩
      · rw [needB (by omega) h]; rfl
      · rw [needG (by omega) ha, Option.bind_some]
        show Option.bind (f_X7_needIndex s2 _ μ) _ = _
        rw [needB (by omega) h]; rfl
    · unfold f_X8_riseBetween; rw [arePB R.mo h]; rfl
  · obtain ⟨ν1, D, e1, F1, I1, A1, H1, W1⟩ := c_trace R.co ha hbb
    have hD : ∀ d, D b = some d → d ≤ 25600 := fun d h => I1.b R.1 h
    refine Or.inr ⟨if D b = none then -2147483648 else gi ν1 3 3, ν1, ?_, F1, fun ν M => ?_⟩
    · unfold f_X7_riseBetween; rw [R.co.P, needG (by omega) ha, Option.bind_some]
      show Option.bind (f_X7_needIndex (nI b) _ μ) _ = _
      rw [needG (by omega) hbb, Option.bind_some]
      show Option.bind (f_X6_trace (nI a) (nI b) μ) _ = _
      rw [e1, Option.bind_some, gck (by omega) (by decide), nI_clamp (by omega), H1 b hbb]
      by_cases c : D b = none
      · rw [if_pos ((oI_m1 hD).mpr c), if_pos c]
      · rw [if_neg (fun w => c ((oI_m1 hD).mp w)), if_neg c]
    · obtain ⟨ν2, D2, e2, F2, I2, A2, H2, W2⟩ := m_way (M.si6 0) ha hbb
      refine ⟨ν2, ?_, (si60 0).tr F2.1, F2.2.trans gi_sii⟩
      rw [alS_u I2 I1 A2 A1] at W2 H2
      rw [← W1] at W2
      unfold f_X8_riseBetween; rw [arePG M ha hbb, Option.bind_some, failG, Option.bind_some]; simp only [bF, if_true]
      rw [e2, Option.bind_some, gck (by omega) (by decide), nI_clamp (by omega), H2 b hbb, show gi ν2 60 23 = gi ν1 3 3 from congrArg Prod.snd W2]
      by_cases c : D b = none
      · rw [if_neg (fun w => absurd ((oI_lt hD).mpr c) (Int32.not_lt.mpr w)), if_pos c]
      · rw [if_pos (Int32.not_lt.mp (fun w => c ((oI_lt hD).mp w))), if_neg c]
theorem sim_41 (s1 s2 : Int32) (R : Rel μ) : simOK μ (f_case_41 s1 s2 μ) := by
  have hb := R.1.b
  refine workI (fC := f_X7_benchGap s1 s2 μ) (fM := f_X8_benchGap s1 s2) R ?_
  rcases pts R s1 s2 with h | ⟨a, b, ha, hbb, rfl, rfl⟩
  · refine Or.inl ⟨μ, ?_, Fr.rf μ, 0, si μ 60 6 1, ?_, si60 1, gi_sii⟩
    · unfold f_X7_benchGap; rw [R.co.P]
      rcases h with h | ⟨⟨a, ha, rfl⟩, h⟩
      · rw [needB (by omega) h]; rfl
      · rw [needG (by omega) ha, Option.bind_some]
        show Option.bind (f_X7_needIndex s2 _ μ) _ = _
        rw [needB (by omega) h]; rfl
    · unfold f_X8_benchGap; rw [arePB R.mo h]; rfl
  · have g1 := held_ge R.1 ha
    have g2 := held_ge R.1 hbb
    have cls : f_X7_benchGap (nI a) (nI b) μ = (if nv 34 μ 5 a = -1 then some (some (-2147483648), μ) else if nv 34 μ 5 b = -1 then some (some (-2147483648), μ) else Option.bind (f_X6_trace (nI a) (nI b) μ) (fun q11 => if (gi q11 4 b) = (-1 : Int32) then some (some (-2147483648), q11) else some (some ((gi q11 3 3) - ((100 : Int32) * ((gi q11 39 b) - (gi q11 39 a)))), q11))) := by
      unfold f_X7_benchGap; rw [R.co.P, needG (by omega) ha, Option.bind_some]
      show Option.bind (f_X7_needIndex (nI b) _ μ) _ = _
      rw [needG (by omega) hbb, Option.bind_some]
      show gchk (gIn (nI a) 16) _ = _
      simp (disch := omega) only [gck, nI_clamp]
      rfl
    have mod : ∀ ν, MO (nv 34 μ) ν → f_X8_benchGap (nI a) (nI b) ν = (if nv 34 μ 5 a = -1 then some (-2147483648, si ν 60 6 0) else if nv 34 μ 5 b = -1 then some (-2147483648, si ν 60 6 0) else Option.bind (f_X8_layWay (nI a) (nI b) (si ν 60 6 0)) (fun q8 => if 0 ≤ (gi q8 69 b) then some ((gi q8 60 23) - ((100 : Int32) * ((gi q8 61 (6 + b)) - (gi q8 61 (6 + a)))), q8) else some (-2147483648, q8))) := fun ν M => by
      have M1 := M.si6 0
      unfold f_X8_benchGap; rw [arePG M ha hbb, Option.bind_some, failG, Option.bind_some]; simp only [bF, if_true]
      simp (disch := omega) only [n6, nI_add, gck, nI_clamp]
      rw [show gi (si ν 60 6 0) 61 (6 + a) = nv 34 μ 5 a from M1.2.1.2.2.1 a ha, show gi (si ν 60 6 0) 61 (6 + b) = nv 34 μ 5 b from M1.2.1.2.2.1 b hbb]
      by_cases c1 : nv 34 μ 5 a = -1
      · rw [if_pos (Int32.not_le.mp (fun w => g1.mp w c1)), if_pos c1]
      · rw [if_neg (Int32.not_lt.mpr (g1.mpr c1)), if_neg c1]
        by_cases c2 : nv 34 μ 5 b = -1
        · rw [if_neg (fun w => g2.mp w c2), if_pos c2]
        · rw [if_pos (g2.mpr c2), if_neg c2]
    by_cases c1 : nv 34 μ 5 a = -1
    · exact Or.inr ⟨-2147483648, μ, by rw [cls, if_pos c1], Fr.rf μ, fun ν M => ⟨si ν 60 6 0, by rw [mod ν M, if_pos c1], si60 0, gi_sii⟩⟩
    · by_cases c2 : nv 34 μ 5 b = -1
      · exact Or.inr ⟨-2147483648, μ, by rw [cls, if_neg c1, if_pos c2], Fr.rf μ, fun ν M => ⟨si ν 60 6 0, by rw [mod ν M, if_neg c1, if_pos c2], si60 0, gi_sii⟩⟩
      · obtain ⟨ν1, D, e1, F1, I1, A1, H1, W1⟩ := c_trace R.co ha hbb
        have C1 := R.co.fr F1
        have hD : ∀ d, D b = some d → d ≤ 25600 := fun d h => I1.b R.1 h
        refine Or.inr ⟨if D b = none then -2147483648 else gi ν1 3 3 - (100 : Int32) * (nv 34 μ 5 b - nv 34 μ 5 a), ν1, ?_, F1, fun ν M => ?_⟩
        · rw [cls, if_neg c1, if_neg c2, e1, Option.bind_some, H1 b hbb, show gi ν1 39 b = nv 34 μ 5 b from C1.at 5 b (by decide), show gi ν1 39 a = nv 34 μ 5 a from C1.at 5 a (by decide)]
          by_cases c : D b = none
          · rw [if_pos ((oI_m1 hD).mpr c), if_pos c]
          · rw [if_neg (fun w => c ((oI_m1 hD).mp w)), if_neg c]
        · obtain ⟨ν2, D2, e2, F2, I2, A2, H2, W2⟩ := m_way (M.si6 0) ha hbb
          have M2 := (M.si6 0).fr F2.1
          refine ⟨ν2, ?_, (si60 0).tr F2.1, F2.2.trans gi_sii⟩
          rw [alS_u I2 I1 A2 A1] at W2 H2
          rw [← W1] at W2
          rw [mod ν M, if_neg c1, if_neg c2, e2, Option.bind_some, H2 b hbb, show gi ν2 60 23 = gi ν1 3 3 from congrArg Prod.snd W2, show gi ν2 61 (6 + b) = nv 34 μ 5 b from M2.2.1.2.2.1 b hbb, show gi ν2 61 (6 + a) = nv 34 μ 5 a from M2.2.1.2.2.1 a ha]
          by_cases c : D b = none
          · rw [if_neg (fun w => absurd ((oI_lt hD).mpr c) (Int32.not_lt.mpr w)), if_pos c]
          · rw [if_pos (Int32.not_lt.mp (fun w => c ((oI_lt hD).mp w))), if_neg c]
end G10

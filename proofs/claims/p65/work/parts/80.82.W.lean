section TW
variable {v : Nat → Nat → Int32} {μ : gM}
theorem subE {a d l : Nat} (ha : a < 2 ^ 30) (hd : d < 2 ^ 30) (hl : l < 2 ^ 30) : (nI a = nI d - nI l) ↔ a + l = d := by
  constructor
  · intro h
    have := congrArg Int32.toInt h
    rw [pk_sub_toInt hd hl, nI_toInt (by omega)] at this
    omega
  · intro h
    rw [← h, pk_sub (by omega)]
    exact congrArg nI (by omega)
theorem nbr_d (C : CI v) {s h d k : Nat} {D : Nat → Option Nat} (I : DI v s D) (A : alS v s D) (hd : D h = some d) (hk : k < nN v) (ht : tT v k h) : ∃ a, D (oO v k h) = some a := by
  obtain ⟨i, hi⟩ := (I.2 h d hd).2.1
  have b := brO_brO ht (C.line hk).2.2.2.2.1
  obtain ⟨a, ha, -⟩ := A (oO v k h) (d + ln v k) ⟨i + 1, k, hk, b.1, d, by rw [show oO v k (oO v k h) = h from b.2.1]; exact hi, rfl⟩
  exact ⟨a, ha⟩
theorem c_back (C : CO v μ) {s h d : Nat} {D : Nat → Option Nat} (I : DI v s D) (hd : D h = some d) (H : CD v 4 D μ) (L : CLn v μ) : f_X6_lineBack (nI h) μ = some (oI (bkN v D h)) := by
  have hb := C.1.b
  have hh := (I.2 h d hd).1
  have hd2 := I.b C.1 hd
  have step : ∀ k, k < nN v → b_X6_lineBack_2 (nI h) (nI k) μ = if bkP v D h k = true then some (.inr (.inr (nI k))) else some (.inl (nI (k + 1))) := fun k hk => by
    have ho := brO_lt (p := h) (C.1.g k hk)
    have ho2 : oO v k h < nP v := ho
    have hl := (C.1.line hk).lnb
    unfold b_X6_lineBack_2
    rw [C.N, if_neg (nI_ge hk (by omega)), C.A, c_acr C hk C.1.A31 (by omega), Option.bind_some, nI_1]
    by_cases t : tT v k h
    · rw [show (if brT (fs v) (sn v) (nA v) k h then nI (brO (fs v) (sn v) k h) else -1) = nI (oO v k h) from if_pos t, if_neg (m1_ne (by omega))]
      simp (disch := omega) only [gck, nI_clamp]
      rw [H _ ho2, H h hh, L k hk, hd]
      cases e : D (oO v k h) with
      | none =>
        rw [if_pos (show oI none = -1 from rfl), if_neg (fun w => by
          obtain ⟨-, a, d', h1, -⟩ := bkP_t.mp w
          rw [e] at h1; cases h1)]
      | some a =>
        have ha := I.b C.1 e
        rw [show oI (some a) = nI a from rfl, show oI (some d) = nI d from rfl, if_neg (m1_ne (by omega))]
        by_cases c : a + ln v k = d
        · rw [if_pos ((subE (by omega) (by omega) (by omega)).mpr c), if_pos (bkP_t.mpr ⟨t, a, d, e, hd, c⟩)]
        · rw [if_neg (fun w => c ((subE (by omega) (by omega) (by omega)).mp w)), if_neg (fun w => by
            obtain ⟨-, a', d', h1, h2, h3⟩ := bkP_t.mp w
            rw [e] at h1
            rw [hd] at h2
            cases h1; cases h2
            exact c h3)]
    · rw [show (if brT (fs v) (sn v) (nA v) k h then nI (brO (fs v) (sn v) k h) else -1) = -1 from if_neg t, if_pos rfl, if_neg (fun w => t (bkP_t.mp w).1)]
  have g := gloop_find (P := bkP v D h) (body := fun t => b_X6_lineBack_2 (nI h) t μ) (nN v) (by omega) (fun k hk e => by
    show b_X6_lineBack_2 (nI h) (nI k) μ = _
    rw [step k hk, if_neg (by rw [e]; decide)]) (fun k hk e => by
    show b_X6_lineBack_2 (nI h) (nI k) μ = _
    rw [step k hk, if_pos e]) (by
    show b_X6_lineBack_2 (nI h) (nI (nN v)) μ = _
    unfold b_X6_lineBack_2
    rw [C.N, if_pos (nI_le (Nat.le_refl _) (by omega))])
  unfold f_X6_lineBack
  rw [show (0 : Int32) = nI 0 from rfl, g, Option.bind_some]
  unfold bkN
  cases fstN (bkP v D h) (nN v) <;> rfl
def clB (D : Nat → Option Nat) (d q : Nat) : Bool := match D q with
  | some a => decide (a < d)
  | none => false
theorem cl_lt {D : Nat → Option Nat} {n d e o : Nat} (ho : o < n) (he : D o = some e) (h : e < d) : cntB (clB D e) n < cntB (clB D d) n :=
  cntB_st (j := o) (by unfold clB; rw [he]; exact decide_eq_false (Nat.lt_irrefl _)) (by unfold clB; rw [he]; exact decide_eq_true h) n ho (fun q _ hq => by
    unfold clB at hq ⊢
    cases c : D q with
    | none => rw [c] at hq; cases hq
    | some a =>
      rw [c] at hq
      exact decide_eq_true (Nat.lt_trans (of_decide_eq_true hq) h))
theorem cl_top {D : Nat → Option Nat} {n d t : Nat} (ht : t < n) (hd : D t = some d) : cntB (clB D d) n + 1 ≤ n := by
  have := cntB_st (M := clB D d) (N := fun _ => true) (j := t) (by unfold clB; rw [hd]; exact decide_eq_false (Nat.lt_irrefl _)) rfl n ht (fun _ _ _ => rfl)
  have h2 := cntB_le (fun _ => true) n
  omega
theorem c_trace (C : CO v μ) {s t : Nat} (hs : s < nP v) (ht : t < nP v) : ∃ ν D, f_X6_trace (nI s) (nI t) μ = some ν ∧ Fr μ ν ∧ DI v s D ∧ alS v s D ∧ CD v 4 D ν ∧ (gi ν 3 2, gi ν 3 3) = if D t = none then (0, 0) else wyf v D s 16 t (0, 0) := by
  have hb := C.1.b
  obtain ⟨ρ, D, e1, I, A, H, L, F⟩ := c_measure C hs
  obtain ⟨ρ1, hρ⟩ : ∃ ρ1, ρ1 = si (si ρ 3 2 (0 : Int32)) 3 3 (0 : Int32) := ⟨_, rfl⟩
  have F1 : Fr μ ρ1 := by rw [hρ]; exact (F.si rfl).si rfl
  have H1 : CD v 4 D ρ1 := fun q hq => by rw [hρ, gi_sik (by decide), gi_sik (by decide)]; exact H q hq
  have L1 : CLn v ρ1 := fun q hq => by rw [hρ, gi_sik (by decide), gi_sik (by decide)]; exact L q hq
  have z1 : (gi ρ1 3 2, gi ρ1 3 3) = ((0 : Int32), (0 : Int32)) := by
    rw [hρ, gi_sij (by decide), gi_sii, gi_sii]
  unfold f_X6_trace
  rw [e1, Option.bind_some, ← hρ, gck (by omega) (by decide), nI_clamp (by omega), H1 t ht]
  cases e : D t with
  | none =>
    rw [if_pos (show oI none = -1 from rfl)]
    exact ⟨ρ1, D, rfl, F1, I, A, H1, by rw [e, if_pos rfl]; exact z1⟩
  | some d =>
    have hd := I.b C.1 e
    rw [if_neg (show ¬ oI (some d) = -1 from m1_ne (by omega))]
    obtain ⟨r, h1, ν, hr, F2, H2, W2⟩ := gloop_rel (body := fun q => b_X6_trace_33 (nI s) q.1 q.2.1 q.2.2) (fun i q => ∃ h d X, q.1 = nI h ∧ q.2.1 = nI i ∧ D h = some d ∧ (gi q.2.2 3 2, gi q.2.2 3 3) = X ∧ CD v 4 D q.2.2 ∧ CLn v q.2.2 ∧ Fr μ q.2.2 ∧ wyf v D s (16 - i) h X = wyf v D s 16 t (0, 0) ∧ i + (cntB (clB D d) (nP v) + 1) ≤ nP v) (fun r => ∃ ν, (r = .inl ν ∨ r = .inr ν) ∧ Fr μ ν ∧ CD v 4 D ν ∧ (gi ν 3 2, gi ν 3 3) = wyf v D s 16 t (0, 0)) (nP v) (fun i q hi hR => by
      obtain ⟨x, y, ν⟩ := q
      obtain ⟨h, d, X, e1, e2, ed, hX, H, L, F, W, hc⟩ := hR
      have e1 : x = nI h := e1
      have e2 : y = nI i := e2
      subst e1 e2
      replace F : Fr μ ν := F
      replace H : CD v 4 D ν := H
      replace L : CLn v ν := L
      replace hX : (gi ν 3 2, gi ν 3 3) = X := hX
      have E := C.fr F
      have hh := (I.2 h d ed).1
      show (∃ t, b_X6_trace_33 (nI s) (nI h) (nI i) ν = _ ∧ _) ∨ ∃ r, b_X6_trace_33 _ _ _ ν = _ ∧ _
      unfold b_X6_trace_33
      rw [E.P, if_neg (nI_ge (show i < nP v by omega) (by omega))]
      have ef : 16 - i = (16 - (i + 1)) + 1 := by omega
      by_cases c : h = s
      · right
        refine ⟨_, if_pos (by rw [c]), ν, Or.inl rfl, F, H, ?_⟩
        rw [hX, ← W, ef]
        show X = if h = s then X else _
        rw [if_pos c]
      · left
        obtain ⟨k, b1, b2, b3, ⟨f, b4, b5⟩, b6⟩ := bkN_ex C.1 I A ed c
        have ho := brO_lt (p := h) (C.1.g k b2)
        have ho2 : oO v k h < nP v := ho
        have hlb := (C.1.line b2).lnb
        rw [if_neg (fun w => c ((nI_eq (by omega) (by omega)).mp w)), c_back E I ed H L, Option.bind_some, b1, show oI (some k) = nI k from rfl, if_neg (m1_ne (by omega)), E.A, c_acr E b2 C.1.A31 (by omega), Option.bind_some, show (if brT (fs v) (sn v) (nA v) k h then nI (brO (fs v) (sn v) k h) else -1) = nI (oO v k h) from if_pos b3, c_riseFrom (E.fr ((Fr.rf ν).si rfl)) b2 (by omega), Option.bind_some, nI_1]
        refine ⟨_, rfl, ⟨oO v k h, f, (X.1 ||| ((1 : Int32) <<< (nI k &&& 31)), X.2 + rfr v (oO v k h) k), rfl, rfl, b4, ?_, fun q hq => ?_, fun q hq => ?_, (F.si rfl).si rfl, ?_, ?_⟩, by omega⟩
        · rw [← hX]
          show (gi (si (si ν 3 2 _) 3 3 _) 3 2, gi (si (si ν 3 2 _) 3 3 _) 3 3) = _
          rw [gi_sij (by decide), gi_sii, gi_sii, gi_sij (by decide)]
          rfl
        · exact (gi_sik (by decide)).trans ((gi_sik (by decide)).trans (H q hq))
        · exact (gi_sik (by decide)).trans ((gi_sik (by decide)).trans (L q hq))
        · rw [← W, ef]
          show _ = if h = s then X else match bkN v D h with | none => X | some k => _
          rw [if_neg c, b1]
        · have := cl_lt (D := D) ho2 b4 (show f < d by omega)
          omega) (by unfold gFuel; omega) (s0 := (nI t, nI 0, ρ1)) ⟨t, d, (0, 0), rfl, rfl, e, z1, H1, L1, F1, rfl, by
        have := cl_top (D := D) ht e
        omega⟩
    refine ⟨ν, D, ?_, F2, I, A, H2, by rw [e, if_neg (show ¬ (some d : Option Nat) = none from fun w => by cases w)]; exact W2⟩
    rw [show gloop (fun q => b_X6_trace_33 (nI s) q.1 q.2.1 q.2.2) gFuel (nI t, (0 : Int32), ρ1) = _ from h1, Option.bind_some]
    rcases hr with h | h <;> rw [h] <;> rfl
end TW
section G10
variable {μ : gM}
theorem pts (R : Rel μ) (s1 s2 : Int32) : ((s1 < 0 ∨ nI (nP (nv 34 μ)) ≤ s1) ∨ (∃ a, a < nP (nv 34 μ) ∧ s1 = nI a) ∧ (s2 < 0 ∨ nI (nP (nv 34 μ)) ≤ s2)) ∨ ∃ a b, a < nP (nv 34 μ) ∧ b < nP (nv 34 μ) ∧ s1 = nI a ∧ s2 = nI b := by
  have hb := R.1.b
  rcases ix3 s1 (n := nP (nv 34 μ)) (by omega) with h | ⟨a, ha, e⟩
  · exact Or.inl (Or.inl h)
  · rcases ix3 s2 (n := nP (nv 34 μ)) (by omega) with h | ⟨b, hbb, e2⟩
    · exact Or.inl (Or.inr ⟨⟨a, ha, e⟩, h⟩)
    · exact Or.inr ⟨a, b, ha, hbb, e, e2⟩
end G10

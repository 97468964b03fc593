/-! ways: the law's, step by step backwards -/
section WAY
variable {v : Nat → Nat → Int32} {ν μ : gM}
theorem q_trace (Co : CO v μ) {s t : Nat} (hs : s < nP v) (ht : t < nP v) : ∃ μ' D, DI v s D ∧ alS v s D ∧ Fr μ μ' ∧ f_X7_wayBetween (nI s) (nI t) μ = some (if D t = none then 0 else (wyf v D s 16 t (0, 0)).1, μ') ∧ f_X7_riseBetween (nI s) (nI t) μ = some (if D t = none then -2147483648 else (wyf v D s 16 t (0, 0)).2, μ') := by
  have hb := Co.1.b
  obtain ⟨μ', D, e, F, I, A, H, W⟩ := c_trace Co hs ht
  obtain ⟨w1, w2⟩ := Prod.mk.inj W
  refine ⟨μ', D, I, A, F, ?_, ?_⟩
  · unfold f_X7_wayBetween
    rw [Co.P, need_ok (by omega) hs, Option.bind_some, need_ok (by omega) ht, Option.bind_some, e, Option.bind_some]
    by_cases c : D t = none
    · rw [if_pos c] at W ⊢
      exact congrArg (fun x => some (x, μ')) (Prod.mk.inj W).1
    · rw [if_neg c] at W ⊢
      rw [← W]
  · unfold f_X7_riseBetween
    rw [Co.P, need_ok (by omega) hs, Option.bind_some, need_ok (by omega) ht, Option.bind_some, e, Option.bind_some, gck (by omega) (by decide), nI_clamp (by omega), H t ht]
    by_cases c : D t = none
    · rw [if_pos c, c, if_pos (show oI none = -1 from rfl)]
    · obtain ⟨d, hd⟩ : ∃ d, D t = some d := by
        cases h : D t with
        | none => exact absurd h c
        | some d => exact ⟨d, rfl⟩
      have hdb := I.b Co.1 hd
      rw [if_neg c] at W ⊢
      rw [hd, if_neg (show ¬ oI (some d) = -1 from m1_ne (by omega)), ← W]
theorem l_110 (C : CI v) (M : LM v ν) {j h : Nat} (hj : j < nN v) (hh : h < nP v) (x1 x2 x5 x6 : Int32) (z : Mx) : j_L_isWay_110 x1 x2 (nI h) x5 x6 (nI j) z ν μ = j_L_isWay_145 x1 x2 (nI h) x5 x6 (nI j) (nI (oO v j h)) z ν μ := by
  have hb := M.b
  have hf := (C.line hj).2.2.1
  unfold j_L_isWay_110
  rw [M.ll]
  simp (disch := omega) only [gck, nI_clamp]
  rw [M.f C hj, M.s C hj]
  by_cases c : fs v j = h
  · rw [if_pos (by rw [c])]
    rw [show oO v j h = sn v j from if_pos c]
  · rw [if_neg (fun q => c ((nI_eq (by omega) (by omega)).mp q))]
    rw [show oO v j h = fs v j from if_neg c]
def lbk (v : Nat → Nat → Int32) (j h : Nat) : Int32 := if sn v j = h then ris v j else - ris v j
theorem lbk_e (C : CI v) {j h : Nat} (hj : j < nN v) (ht : tT v j h) : lbk v j h = rfr v (oO v j h) j := by
  have hne := (C.line hj).2.2.2.2.1
  unfold lbk rfr
  rcases ends ht with ⟨a, b⟩ | ⟨a, b⟩
  · rw [a, b, if_pos rfl, if_pos rfl]
  · rw [a, b, if_neg (fun q => hne q.symm), if_neg hne]
theorem l_145 (C : CI v) (M : LM v ν) {a j h o : Nat} (ha : a < nP v) (hj : j < nN v) (hh : h < nP v) (ho : o < nP v) {z : Mx} {N : Nat → Nat → Nat} (G : GZ (nP v) z N) (x2 x5 x6 : Int32) : j_L_isWay_145 (nI a) x2 (nI h) x5 x6 (nI j) (nI o) z ν μ = if N a o + ln v j = N a h then some (.inr (nI o, x5 ||| ((1 : Int32) <<< (nI j &&& 31)), x6 + lbk v j h)) else some (.inl (nI h, x5, x6, nI (j + 1))) := by
  have hb := M.b
  have hl := (C.line hj).lnb
  have hs := (C.line hj).2.2.2.1
  obtain ⟨g1, g2⟩ := G a o ha ho
  obtain ⟨g3, g4⟩ := G a h ha hh
  unfold j_L_isWay_145
  rw [M.ll, M.lp]
  simp (disch := omega) only [gck, nI_clamp]
  rw [l_length C M hj, Option.bind_some, g1, g3, nI_add, nI_1]
  by_cases c : N a o + ln v j = N a h
  · rw [if_pos (by rw [c]), if_pos c, M.s C hj, l_rise C M hj, Option.bind_some, Option.bind_some]
    unfold lbk
    by_cases d : sn v j = h
    · rw [if_pos (by rw [d]), if_pos d]
    · rw [if_neg (fun q => d ((nI_eq (by omega) (by omega)).mp q)), if_neg d]
  · rw [if_neg (fun q => c ((nI_eq (by omega) (by omega)).mp q)), if_neg c]
/-- what the law's matrix and the class's distances from s have to do with one another -/
def ND (v : Nat → Nat → Int32) (N : Nat → Nat → Nat) (s : Nat) (D : Nat → Option Nat) : Prop := ∀ q, q < nP v → (D q = none ∧ 1000000 ≤ N s q) ∨ ∃ d, D q = some d ∧ N s q = d ∧ d ≤ 25600
theorem nd_bk (C : CI v) {N : Nat → Nat → Nat} {s : Nat} {D : Nat → Option Nat} (H : ND v N s D) {h d j : Nat} (hd : D h = some d) (hh : h < nP v) (hj : j < nN v) (ht : tT v j h) : (N s (oO v j h) + ln v j = N s h) ↔ bkP v D h j = true := by
  have ho : oO v j h < nP v := brO_lt (C.g j hj)
  rw [bkP_t]
  rcases H h hh with ⟨e, -⟩ | ⟨d2, e, en, eb⟩
  · rw [hd] at e; cases e
  rw [hd] at e; cases e
  constructor
  · intro q
    rcases H _ ho with ⟨-, e2⟩ | ⟨a, e2, e3, -⟩
    · omega
    · exact ⟨ht, a, d, e2, hd, by omega⟩
  · rintro ⟨-, a, d3, e2, e3, e4⟩
    rw [hd] at e3; cases e3
    rcases H _ ho with ⟨e5, -⟩ | ⟨a2, e5, e6, -⟩
    · rw [e5] at e2; cases e2
    · rw [e5] at e2; cases e2; omega
theorem l_60 (C : CI v) (M : LM v ν) {s : Nat} (hs : s < nP v) {z : Mx} {N : Nat → Nat → Nat} (G : GZ (nP v) z N) {D : Nat → Option Nat} (H : ND v N s D) {h d k : Nat} (hh : h < nP v) (hd : D h = some d) (hk : k < nN v) (ht : tT v k h) (hb1 : bkP v D h k = true) (hb2 : ∀ j, j < k → bkP v D h j = false) (x2 : Int32) (X : Int32 × Int32) :
    gloop (fun t => b_L_isWay_60 (nI s) x2 z t.1 t.2.1 t.2.2.1 t.2.2.2 ν μ) 12 (nI h, X.1, X.2, (0 : Int32)) = some (nI (oO v k h), X.1 ||| ((1 : Int32) <<< (nI k &&& 31)), X.2 + rfr v (oO v k h) k) := by
  have hb := M.b
  have key : ∀ j, j < nN v → b_L_isWay_60 (nI s) x2 z (nI h) X.1 X.2 (nI j) ν μ = if bkP v D h j = true then some (.inr (nI (oO v j h), X.1 ||| ((1 : Int32) <<< (nI j &&& 31)), X.2 + rfr v (oO v j h) j)) else some (.inl (nI h, X.1, X.2, nI (j + 1))) := by
    intro j hj
    have hf := (C.line hj).2.2.1
    have hsn := (C.line hj).2.2.2.1
    unfold b_L_isWay_60
    rw [M.N, if_neg (nI_ge hj (by omega)), M.ll]
    simp (disch := omega) only [gck, nI_clamp]
    rw [nI_1]
    by_cases c : (nA v).testBit j = true
    · rw [if_neg (fun q => (M.a0 hj).mp q c), M.f C hj, M.s C hj, l_110 C M hj hh]
      have fin : tT v j h → j_L_isWay_145 (nI s) x2 (nI h) X.1 X.2 (nI j) (nI (oO v j h)) z ν μ = if bkP v D h j = true then some (.inr (nI (oO v j h), X.1 ||| ((1 : Int32) <<< (nI j &&& 31)), X.2 + rfr v (oO v j h) j)) else some (.inl (nI h, X.1, X.2, nI (j + 1))) := fun htj => by
        rw [l_145 C M hs hj hh (brO_lt (C.g j hj)) G, lbk_e C hj htj]
        by_cases d1 : bkP v D h j = true
        · rw [if_pos ((nd_bk C H hd hh hj htj).mpr d1), if_pos d1]
        · rw [if_neg (fun q => d1 ((nd_bk C H hd hh hj htj).mp q)), if_neg d1]
      by_cases e1 : fs v j = h
      · rw [if_pos (by rw [e1])]
        exact fin ⟨c, Or.inl e1⟩
      · rw [if_neg (fun q => e1 ((nI_eq (by omega) (by omega)).mp q))]
        by_cases e2 : sn v j = h
        · rw [if_pos (by rw [e2])]
          exact fin ⟨c, Or.inr e2⟩
        · rw [if_neg (fun q => e2 ((nI_eq (by omega) (by omega)).mp q)), if_neg]
          intro q
          have := (bkP_t.mp q).1.2
          omega
    · rw [if_pos ((M.a0 hj).mpr c), if_neg]
      intro q
      exact c (bkP_t.mp q).1.1
  refine gloop_run (fun i => (nI h, X.1, X.2, nI i)) k (fun j hj => ?_) ?_ 12 (by omega)
  · show b_L_isWay_60 (nI s) x2 z (nI h) X.1 X.2 (nI j) ν μ = _
    rw [key j (by omega), if_neg (by rw [hb2 j hj]; decide)]
  · show b_L_isWay_60 (nI s) x2 z (nI h) X.1 X.2 (nI k) ν μ = _
    rw [key k hk, if_pos hb1]
theorem l_isWay (Co : CO v μ) (M : LM v ν) {N : Nat → Nat → Nat} (hN : LN v (nN v) N) (T : TR (nP v) (nP v) N) {z : Mx} (G : GZ (nP v) z N) {a b : Nat} (ha : a < nP v) (hb : b < nP v) : ∃ μ', f_L_isWay (nI a) (nI b) z ν μ = some (true, μ') ∧ Fr μ μ' := by
  have C := Co.1
  have hM := M.b
  obtain ⟨μ1, D, I, A, F1, w1, r1⟩ := q_trace Co ha hb
  have H : ND v N a D := fun q hq => N_D C hN T ha I A hq
  obtain ⟨g1, g2⟩ := G a b ha hb
  unfold f_L_isWay
  rw [M.lp]
  simp (disch := omega) only [gck, nI_clamp]
  rw [g1, show (1000000 : Int32) = nI 1000000 from rfl]
  rcases H b hb with ⟨e, en⟩ | ⟨d, e, en, eb⟩
  · rw [if_neg (nI_nlt en (by omega)), r1, if_pos e, Option.bind_some, if_pos rfl]
    obtain ⟨μ2, D2, I2, A2, F2, w2, r2⟩ := q_trace (Co.fr F1) ha hb
    rw [w2, alS_u I2 I A2 A, if_pos e, Option.bind_some, if_pos rfl]
    exact ⟨μ2, rfl, F1.tr F2⟩
  · rw [if_pos ((nI_ltI (by omega) (by decide)).mpr (by omega))]
    have hl : ∃ r, gloop (fun t => b_L_isWay_51 (nI a) (nI b) z t.1 t.2.1 t.2.2 ν μ) 9 (nI b, (0 : Int32), (0 : Int32)) = some r ∧ r = wyf v D a 16 b (0, 0) := by
      refine gloop_relN (fun i t => ∃ h d X, t.1 = nI h ∧ t.2 = X ∧ D h = some d ∧ wyf v D a (16 - i) h X = wyf v D a 16 b (0, 0) ∧ cntB (clB D d) (nP v) + i + 1 ≤ nP v) (fun r => r = wyf v D a 16 b (0, 0)) (nP v) 9 (fun i t hi hR => ?_) (by omega) ⟨b, d, (0, 0), rfl, rfl, e, rfl, by have := cl_top hb e; omega⟩
      obtain ⟨h, d, X, e1, e2, ed, W, hc⟩ := hR
      obtain ⟨t1, t2⟩ := t
      have e1 : t1 = nI h := e1
      have e2 : t2 = X := e2
      subst e1 e2
      have hh := (I.2 h d ed).1
      show (∃ t, b_L_isWay_51 (nI a) (nI b) z (nI h) t2.1 t2.2 ν μ = _ ∧ _) ∨ ∃ r, b_L_isWay_51 (nI a) (nI b) z (nI h) t2.1 t2.2 ν μ = _ ∧ _
      unfold b_L_isWay_51
      have ef : 16 - i = (16 - (i + 1)) + 1 := by omega
      by_cases c : h = a
      · right
        refine ⟨_, if_pos (by rw [c]), ?_⟩
        rw [← W, ef]
        show t2 = if h = a then t2 else _
        rw [if_pos c]
      · left
        obtain ⟨k, b1, b2, b3, ⟨f, b4, b5⟩, b6⟩ := bkN_ex C I A ed c
        have ho : oO v k h < nP v := brO_lt (p := h) (C.g k b2)
        have hlb := (C.line b2).lnb
        have hbk : bkP v D h k = true := bkP_t.mpr ⟨b3, f, d, b4, ed, b5⟩
        rw [if_neg (fun w => c ((nI_eq (by omega) (by omega)).mp w)), l_60 C M ha G H hh ed b2 b3 hbk b6, Option.bind_some]
        refine ⟨_, rfl, ⟨oO v k h, f, (t2.1 ||| ((1 : Int32) <<< (nI k &&& 31)), t2.2 + rfr v (oO v k h) k), rfl, rfl, b4, ?_, ?_⟩, by omega⟩
        · rw [← W, ef]
          show _ = if h = a then t2 else match bkN v D h with | none => t2 | some k => wyf v D a (16 - (i + 1)) (oO v k h) (t2.1 ||| ((1 : Int32) <<< (nI k &&& 31)), t2.2 + rfr v (oO v k h) k)
          rw [if_neg c, b1]
        · have := cl_lt (D := D) (n := nP v) (d := d) (e := f) ho b4 (by omega)
          omega
    obtain ⟨r, hr, rfl⟩ := hl
    have en0 : ¬ D b = none := fun q => by rw [e] at q; cases q
    rw [hr, Option.bind_some, w1, if_neg en0, Option.bind_some, if_pos rfl]
    obtain ⟨μ2, D2, I2, A2, F2, w2, r2⟩ := q_trace (Co.fr F1) ha hb
    rw [r2, alS_u I2 I A2 A, if_neg en0, Option.bind_some, if_pos rfl]
    exact ⟨μ2, rfl, F1.tr F2⟩
end WAY

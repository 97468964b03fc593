/-! roots, parts and distances as the law reckons them -/
section AWS
variable {v : Nat → Nat → Int32} {ν μ : gM}
theorem q_rootOf (Co : CO v μ) {a : Nat} (ha : a < nP v) : ∃ μ', f_X7_rootOf (nI a) μ = some (nI (rtv v (nA v) a), μ') ∧ Fr μ μ' := by
  have hb := Co.1.b
  obtain ⟨ρ, e, F, h6, T⟩ := c_grow Co (A := nA v) Co.1.A31
  have TA := tgr_all Co.1 (nA v)
  refine ⟨ρ, ?_, F⟩
  unfold f_X7_rootOf
  rw [Co.P, need_ok (by omega) ha, Option.bind_some, Co.A, e, Option.bind_some, gck (by omega) (by decide), nI_clamp (by omega), T.1 a ha, if_pos (TA.1 a ha)]
  rfl
theorem q_parts (Co : CO v μ) : ∃ μ', f_X7_partCount μ = some (nI (prt (rtv v (nA v)) (nP v)), μ') ∧ Fr μ μ' := by
  obtain ⟨ρ, e, F, h6, T⟩ := c_grow Co (A := nA v) Co.1.A31
  refine ⟨ρ, ?_, F⟩
  unfold f_X7_partCount
  rw [Co.A, e, Option.bind_some, h6, (tgr_p Co.1 (nA v) (nP v) (Nat.le_refl _)).2]
  rfl
theorem q_dist (Co : CO v μ) {a b : Nat} (ha : a < nP v) (hb2 : b < nP v) : ∃ μ' D, DI v a D ∧ alS v a D ∧ f_X7_distance (nI a) (nI b) μ = some (oI (D b), μ') ∧ Fr μ μ' := by
  have hb := Co.1.b
  obtain ⟨ρ, D, e, I, A, CDD, -, F⟩ := c_measure Co ha
  refine ⟨ρ, D, I, A, ?_, F⟩
  unfold f_X7_distance
  rw [Co.P, need_ok (by omega) ha, Option.bind_some, need_ok (by omega) hb2, Option.bind_some, e, Option.bind_some, gck (by omega) (by decide), nI_clamp (by omega), CDD b hb2]
/-- near means that there is a way -/
theorem nr_wk (Co : CO v μ) {N : Nat → Nat → Nat} (hN : LN v (nN v) N) (T : TR (nP v) (nP v) N) {a b : Nat} (ha : a < nP v) (hb : b < nP v) : N a b < 1000000 ↔ ∃ d, wk v a b d := by
  constructor
  · intro h; exact ⟨_, hN.2.1 a b ha hb h⟩
  · rintro ⟨d, hd⟩
    obtain ⟨ρ, D, e, I, A, -, -, -⟩ := c_measure Co ha
    rcases N_D Co.1 hN T ha I A hb with ⟨e1, -⟩ | ⟨d1, e1, e2, e3⟩
    · obtain ⟨d2, h2, -⟩ := A b d hd
      rw [e1] at h2; cases h2
    · omega
theorem wk_rt (C : CI v) {a : Nat} (ha : a < nP v) : ∀ i q d, wkn v a i q d → q < nP v ∧ rtv v (nA v) q = rtv v (nA v) a
  | 0, q, d, ⟨e1, e2⟩ => by rw [e1]; exact ⟨ha, rfl⟩
  | i + 1, q, d, ⟨k, hk, ht, e, he, hd⟩ => by
    have T := tgr_all C (nA v)
    have hg := C.g k hk
    obtain ⟨h1, h2⟩ := wk_rt C ha i _ e he
    have h3 := T.2.2.2.2 k hk ht.1 (T.1 _ hg.1)
    have h3 : rtv v (nA v) (fs v k) = rtv v (nA v) (sn v k) := h3
    rcases ends ht with ⟨x, y⟩ | ⟨x, y⟩
    · rw [x] at h2
      rw [y]; exact ⟨hg.2, h3.symm.trans h2⟩
    · rw [x] at h2
      rw [y]; exact ⟨hg.1, h3.trans h2⟩
theorem rt_rt (C : CI v) {a : Nat} (ha : a < nP v) : rtv v (nA v) a < nP v ∧ rtv v (nA v) a ≤ a ∧ rtv v (nA v) (rtv v (nA v) a) = rtv v (nA v) a := by
  have T := tgr_all C (nA v)
  have h := T.2.1 a (T.1 a ha)
  exact ⟨Nat.lt_of_le_of_lt h.2.2.1 ha, h.2.2.1, h.2.2.2.2.1⟩
theorem nr_rt (Co : CO v μ) {N : Nat → Nat → Nat} (hN : LN v (nN v) N) (T : TR (nP v) (nP v) N) {a b : Nat} (ha : a < nP v) (hb : b < nP v) : N a b < 1000000 ↔ rtv v (nA v) b = rtv v (nA v) a := by
  have C := Co.1
  constructor
  · intro h
    obtain ⟨d, i, hd⟩ := (nr_wk Co hN T ha hb).mp h
    exact (wk_rt C ha i b d hd).2
  · intro h
    have hQ : ∀ k, k < nN v → (nA v).testBit k = true → ((∃ d, wk v a (fs v k) d) ↔ ∃ d, wk v a (sn v k) d) := fun k hk hA => by
      have h1 := wk_line C hk hA
      exact ⟨fun ⟨d, hd⟩ => ⟨_, wk_t hd h1⟩, fun ⟨d, hd⟩ => ⟨_, wk_t hd (wk_s C h1)⟩⟩
    have q1 := rt_up (A := nA v) (Q := fun p => ∃ d, wk v a p d) C hQ _ a ha rfl
    have q2 := rt_up (A := nA v) (Q := fun p => ∃ d, wk v a p d) C hQ _ b hb rfl
    rw [h] at q2
    exact (nr_wk Co hN T ha hb).mpr (q2.mpr (q1.mp ⟨0, wk_0 a⟩))
def dn (n : Nat) : Int32 := if n = 0 then -1 else nI (n - 1)
theorem dn_s {n : Nat} (hn : n < 100) : nI n + (-1 : Int32) = dn n ∧ nI n - 1 = dn n := by
  have : ∀ n, n < 100 → nI n + (-1 : Int32) = dn n ∧ nI n - 1 = dn n := by decide +kernel
  exact this n hn
theorem l_29 (Co : CO v μ) (M : LM v ν) {N : Nat → Nat → Nat} (hN : LN v (nN v) N) (T : TR (nP v) (nP v) N) {z : Mx} (G : GZ (nP v) z N) {a : Nat} (ha : a < nP v) (x2 : Int32) : gloop (fun t => b_L_areWays_29 x2 (nI a) z t.1 t.2 ν μ) 9 (nI a, dn (nP v)) = some (nI (rtv v (nA v) a)) := by
  have C := Co.1
  have hb := M.b
  obtain ⟨r1, r2, r3⟩ := rt_rt C ha
  have h : ∃ r, gloop (fun t => b_L_areWays_29 x2 (nI a) z t.1 t.2 ν μ) 9 (nI a, dn (nP v)) = some r ∧ r = nI (rtv v (nA v) a) := by
    refine gloop_relN (fun i t => ∃ m, t = (nI m, dn (nP v - i)) ∧ m < nP v ∧ rtv v (nA v) m = rtv v (nA v) a ∧ ∀ q, nP v - i ≤ q → q < nP v → rtv v (nA v) q = rtv v (nA v) a → m ≤ q) (fun r => r = nI (rtv v (nA v) a)) (nP v) 9 (fun i t hi hR => ?_) (by omega) ⟨a, rfl, ha, rfl, fun q h1 h2 => absurd h1 (by omega)⟩
    obtain ⟨m, rfl, m1, m2, m3⟩ := hR
    show (∃ t, b_L_areWays_29 x2 (nI a) z (nI m) (dn (nP v - i)) ν μ = _ ∧ _) ∨ ∃ r, b_L_areWays_29 x2 (nI a) z (nI m) (dn (nP v - i)) ν μ = _ ∧ _
    unfold b_L_areWays_29
    by_cases c : i = nP v
    · right
      have e : dn (nP v - i) = -1 := if_pos (by omega)
      rw [e, if_pos (by decide)]
      have h1 := m3 _ (by omega) r1 r3
      have h2 := (rt_rt C m1).2.1
      rw [m2] at h2
      exact ⟨_, rfl, by rw [show m = rtv v (nA v) a by omega]⟩
    · left
      obtain ⟨p, hp⟩ : ∃ p, nP v - i = p + 1 := ⟨nP v - i - 1, by omega⟩
      have hp2 : nP v - (i + 1) = p := by omega
      have hpl : p < nP v := by omega
      have e : dn (nP v - i) = nI p := by rw [hp]; rfl
      obtain ⟨g1, g2⟩ := G a p ha hpl
      rw [e, if_neg (nI_pos (by omega)), M.lp]
      simp (disch := omega) only [gck, nI_clamp]
      rw [g1, (dn_s (n := p) (by omega)).1, show (1000000 : Int32) = nI 1000000 from rfl, hp2]
      by_cases d : N a p < 1000000
      · have dr := (nr_rt Co hN T ha hpl).mp d
        rw [if_neg (nI_ge d (by omega))]
        by_cases f : m ≤ p
        · rw [if_pos (nI_le f (by omega))]
          refine ⟨_, rfl, ⟨m, rfl, m1, m2, fun q h1 h2 h3 => ?_⟩, by omega⟩
          by_cases g : q = p
          · omega
          · exact m3 q (by omega) h2 h3
        · rw [if_neg (nI_ge (by omega) (by omega))]
          refine ⟨_, rfl, ⟨p, rfl, hpl, dr, fun q h1 h2 h3 => h1⟩, by omega⟩
      · rw [if_pos (nI_le (by omega) (by omega))]
        refine ⟨_, rfl, ⟨m, rfl, m1, m2, fun q h1 h2 h3 => ?_⟩, by omega⟩
        by_cases g : q = p
        · rw [g] at h3; exact absurd ((nr_rt Co hN T ha hpl).mpr h3) d
        · exact m3 q (by omega) h2 h3
  obtain ⟨r, hr, rfl⟩ := h
  exact hr
theorem l_70 (Co : CO v μ) (M : LM v ν) {N : Nat → Nat → Nat} (hN : LN v (nN v) N) (T : TR (nP v) (nP v) N) {z : Mx} (G : GZ (nP v) z N) {a : Nat} (ha : a < nP v) (x2 : Int32) : gloop (fun t => b_L_areWays_70 x2 (nI a) z t.1 t.2 ν μ) 9 (nI (rtv v (nA v) a), (0 : Int32)) = some (nI (rtv v (nA v) a)) := by
  have C := Co.1
  have hb := M.b
  obtain ⟨r1, r2, r3⟩ := rt_rt C ha
  refine gloop_run (fun i => (nI (rtv v (nA v) a), nI i)) (nP v) (fun i hi => ?_) ?_ 9 (by omega)
  · show b_L_areWays_70 x2 (nI a) z (nI (rtv v (nA v) a)) (nI i) ν μ = _
    obtain ⟨g1, g2⟩ := G a i ha hi
    unfold b_L_areWays_70
    rw [M.P, if_neg (nI_ge hi (by omega)), M.lp]
    simp (disch := omega) only [gck, nI_clamp]
    rw [g1, nI_1, show (1000000 : Int32) = nI 1000000 from rfl]
    by_cases d : N a i < 1000000
    · have dr := (nr_rt Co hN T ha hi).mp d
      have := (rt_rt C hi).2.1
      rw [if_neg (nI_ge d (by omega)), imin_n (by omega) (by omega), Nat.min_eq_left (by omega)]
    · rw [if_pos (nI_le (by omega) (by omega))]
  · show b_L_areWays_70 x2 (nI a) z (nI (rtv v (nA v) a)) (nI (nP v)) ν μ = _
    unfold b_L_areWays_70
    rw [M.P, if_pos (nI_le (Nat.le_refl _) (by omega))]
theorem l_142 (M : LM v ν) {N : Nat → Nat → Nat} (hN : LN v (nN v) N) (T : TR (nP v) (nP v) N) {z : Mx} (G : GZ (nP v) z N) {a : Nat} (ha : a < nP v) (x2 : Int32) (Co : CO v μ) : ∃ μ', gloop (fun t => b_L_areWays_142 x2 (nI a) z t.1 ν t.2) 9 ((0 : Int32), μ) = some (.inl μ') ∧ Fr μ μ' := by
  have C := Co.1
  have hb := M.b
  have h : ∃ r, gloop (fun t => b_L_areWays_142 x2 (nI a) z t.1 ν t.2) 9 ((0 : Int32), μ) = some r ∧ ∃ μ', r = .inl μ' ∧ Fr μ μ' := by
    refine gloop_relN (fun i (t : Int32 × gM) => t.1 = nI i ∧ Fr μ t.2) (fun (r : gM ⊕ (Bool × gM)) => ∃ μ', r = .inl μ' ∧ Fr μ μ') (nP v) 9 (fun i t hi hR => ?_) (by omega) ⟨rfl, Fr.rf μ⟩
    obtain ⟨t1, t2⟩ := t
    obtain ⟨e1, F⟩ := hR
    have e1 : t1 = nI i := e1
    subst e1
    have F : Fr μ t2 := F
    show (∃ t, b_L_areWays_142 x2 (nI a) z (nI i) ν t2 = _ ∧ _) ∨ ∃ r, b_L_areWays_142 x2 (nI a) z (nI i) ν t2 = _ ∧ _
    unfold b_L_areWays_142
    rw [M.P]
    by_cases c : i = nP v
    · right
      rw [if_pos (nI_le (by omega) (by omega))]
      exact ⟨_, rfl, _, rfl, F⟩
    · left
      have hil : i < nP v := by omega
      obtain ⟨g1, g2⟩ := G a i ha hil
      rw [if_neg (nI_ge hil (by omega)), M.lp]
      simp (disch := omega) only [gck, nI_clamp]
      obtain ⟨μ1, D, I, A, e1, F1⟩ := q_dist (Co.fr F) ha hil
      obtain ⟨μ2, e2, F2⟩ := l_isWay ((Co.fr F).fr F1) M hN T G ha hil
      have fin : ∀ y : Int32, oI (D i) = y → j_L_areWays_194 x2 (nI a) (nI i) (oI (D i)) y z ν μ1 = some (.inl (nI (i + 1), μ2)) := fun y hy => by
        unfold j_L_areWays_194
        rw [if_pos hy, e2, Option.bind_some, if_neg (show ¬ b2i true = 0 from by decide), nI_1]
      have R : Fr μ μ2 := F.tr (F1.tr F2)
      have h167 : ∀ y0 : Int32, j_L_areWays_167 x2 (nI a) (nI i) y0 z ν t2 = if y0 = 0 then j_L_areWays_194 x2 (nI a) (nI i) (oI (D i)) (nI (N a i)) z ν μ1 else j_L_areWays_194 x2 (nI a) (nI i) (oI (D i)) (-1) z ν μ1 := fun y0 => by
        unfold j_L_areWays_167
        rw [e1, Option.bind_some, M.lp]
        simp (disch := omega) only [gck, nI_clamp]
        rw [g1]
      rw [g1, show (1000000 : Int32) = nI 1000000 from rfl, h167, h167, if_pos rfl, if_neg (show ¬ (1 : Int32) = 0 by decide)]
      rcases N_D C hN T ha I A hil with ⟨h1, h2⟩ | ⟨d, h1, h2, h3⟩
      · rw [if_neg (nI_nlt h2 (by omega)), fin (-1) (by rw [h1]; rfl)]
        exact ⟨_, rfl, ⟨rfl, R⟩, by omega⟩
      · rw [if_pos ((nI_ltI (by omega) (by decide)).mpr (by omega)), fin (nI (N a i)) (by rw [h1, h2]; rfl)]
        exact ⟨_, rfl, ⟨rfl, R⟩, by omega⟩
  obtain ⟨r, hr, μ', rfl, F⟩ := h
  exact ⟨μ', hr, F⟩
theorem l_10 (M : LM v ν) {N : Nat → Nat → Nat} (hN : LN v (nN v) N) (T : TR (nP v) (nP v) N) {z : Mx} (G : GZ (nP v) z N) (Co : CO v μ) : ∃ μ', gloop (fun t => b_L_areWays_10 z t.1 t.2.1 ν t.2.2) 9 ((0 : Int32), (0 : Int32), μ) = some (.inl (nI (prt (rtv v (nA v)) (nP v)), μ')) ∧ Fr μ μ' := by
  have C := Co.1
  have hb := M.b
  have h : ∃ r, gloop (fun t => b_L_areWays_10 z t.1 t.2.1 ν t.2.2) 9 ((0 : Int32), (0 : Int32), μ) = some r ∧ ∃ μ', r = .inl (nI (prt (rtv v (nA v)) (nP v)), μ') ∧ Fr μ μ' := by
    refine gloop_relN (fun i (t : Int32 × Int32 × gM) => t.1 = nI (prt (rtv v (nA v)) i) ∧ t.2.1 = nI i ∧ Fr μ t.2.2) (fun (r : (Int32 × gM) ⊕ (Bool × gM)) => ∃ μ', r = .inl (nI (prt (rtv v (nA v)) (nP v)), μ') ∧ Fr μ μ') (nP v) 9 (fun i t hi hR => ?_) (by omega) ⟨rfl, rfl, Fr.rf μ⟩
    obtain ⟨t1, t2, t3⟩ := t
    obtain ⟨e1, e2, F⟩ := hR
    have e1 : t1 = nI (prt (rtv v (nA v)) i) := e1
    have e2 : t2 = nI i := e2
    subst e1 e2
    have F : Fr μ t3 := F
    show (∃ t, b_L_areWays_10 z _ (nI i) ν t3 = _ ∧ _) ∨ ∃ r, b_L_areWays_10 z _ (nI i) ν t3 = _ ∧ _
    unfold b_L_areWays_10
    rw [M.P]
    by_cases c : i = nP v
    · right
      rw [if_pos (nI_le (by omega) (by omega))]
      exact ⟨_, rfl, t3, by rw [c], F⟩
    · left
      have hil : i < nP v := by omega
      have Co1 := Co.fr F
      obtain ⟨r1, r2, r3⟩ := rt_rt C hil
      rw [if_neg (nI_ge hil (by omega)), (dn_s (n := nP v) (by omega)).2, l_29 Co1 M hN T G hil, Option.bind_some, l_70 Co1 M hN T G hil, Option.bind_some]
      obtain ⟨μ1, e1, F1⟩ := q_rootOf Co1 hil
      have fin : ∀ y : Int32, ∃ μ2, j_L_areWays_122 (nI i) (nI (rtv v (nA v) i)) (nI (prt (rtv v (nA v)) i)) y z ν t3 = some (.inl (nI (prt (rtv v (nA v)) i) + y, nI (i + 1), μ2)) ∧ Fr μ μ2 := fun y => by
        obtain ⟨μ2, e2, F2⟩ := l_142 M hN T G hil (nI (prt (rtv v (nA v)) i) + y) (Co1.fr F1)
        refine ⟨μ2, ?_, F.tr (F1.tr F2)⟩
        unfold j_L_areWays_122
        rw [e1, Option.bind_some, if_pos rfl, e2, Option.bind_some, nI_1]
        rfl
      by_cases d : rtv v (nA v) i = i
      · obtain ⟨μ2, h2, F2⟩ := fin 1
        rw [if_pos (by rw [d]), h2, nI_1]
        exact ⟨_, rfl, ⟨congrArg nI (show prt (rtv v (nA v)) i + 1 = if rtv v (nA v) i = i then prt (rtv v (nA v)) i + 1 else prt (rtv v (nA v)) i from (if_pos d).symm), rfl, F2⟩, by omega⟩
      · obtain ⟨μ2, h2, F2⟩ := fin 0
        rw [if_neg (fun w => d ((nI_eq (by omega) (by omega)).mp w)), h2, Int32.add_zero]
        exact ⟨_, rfl, ⟨congrArg nI (show prt (rtv v (nA v)) i = if rtv v (nA v) i = i then prt (rtv v (nA v)) i + 1 else prt (rtv v (nA v)) i from (if_neg d).symm), rfl, F2⟩, by omega⟩
  obtain ⟨r, hr, μ', rfl, F⟩ := h
  exact ⟨μ', hr, F⟩
end AWS

/-! the law's start -/
section FIN
theorem oI_b {o : Option Nat} (h : ∀ x, o = some x → x ≤ 199999) : oI o = -1 ∨ inR 0 9999999 (oI o) := by
  cases o with
  | none => exact Or.inl rfl
  | some x =>
    right
    have := h x rfl
    exact inR_n (lo := 0) (hi := 9999999) (Nat.zero_le _) (by omega) (by omega)
theorem gdx_R {w x : Nat} (hw : w < 4) (h : gdx w x) : gdN w (nI x) := by
  by_cases c : w < 2
  · exact gd_01 c (h.1 c)
  · have := h.2 (by omega)
    exact gd_23 (by omega) this.1 this.2
/-- what the law laid down and what the class read: the same network -/
theorem fin_IV {P N : Nat} (hP : 2 ≤ P ∧ P ≤ 8) (hN : 1 ≤ N ∧ N ≤ 11) {tt : Nat} (ht : tt ≤ 200) {c0 c1 : Int32} (h0 : -200 ≤ c0.toInt ∧ c0.toInt ≤ 200) (h1 : -200 ≤ c1.toInt ∧ c1.toInt ≤ 200) {ho : Nat → Option Nat} (hho : ∀ p x, ho p = some x → x ≤ 199999) {Y : Nat → LY} (hY : ∀ k, LYok P (Y k)) {ν μ ρ : gM} (D : DF tt (fun l => if l = 0 then cN c0 else cN c1) ho (fun k => (Y k).1) (fun k => (Y k).2.1) (fun k => (Y k).2.2.1) (fun k => (Y k).2.2.2.1 + 1) (fun k => (Y k).2.2.2.2) 2 P N ρ) (hμ : ∀ j i, j < 13 → gi μ (34 + j) i = gi ρ (47 + j) i) (z : gi μ 20 2 = 0) (z28 : gi μ 28 0 = 0) (z281 : gi μ 28 1 = 0) (R : LR P N N ν) (A : ∀ j, j < N → LC1 (Y j) j ν) (g8 : gi ν 8 0 = nI tt) (g10 : gi ν 1 0 = c0) (g11 : gi ν 1 1 = c1) (g2 : ∀ p, p < P → gi ν 2 p = oI (ho p)) (ga : gi ν 0 10 = 0) : IV (nv 34 μ) ν μ := by
  obtain ⟨⟨⟨d1, -, -⟩, d2, -, -⟩, ⟨d3, d4, d5⟩, ⟨d6, d7, d8⟩, d9, d10, d11⟩ := D
  obtain ⟨v, hv⟩ : ∃ v, v = nv 34 μ := ⟨_, rfl⟩
  have at' : ∀ j i, j < 13 → v j i = gi ρ (47 + j) i := fun j i hj => by
    rw [hv]
    show (if j < 13 then μ.1 (34 + j) i else 0) = _
    rw [if_pos hj]; exact hμ j i hj
  have v00 : v 0 0 = nI 2 := (at' 0 0 (by decide)).trans d1
  have v01 : v 0 1 = nI P := (at' 0 1 (by decide)).trans d2
  have v02 : v 0 2 = nI N := (at' 0 2 (by decide)).trans d3
  have v03 : v 0 3 = 0 := (at' 0 3 (by decide)).trans d4
  have v04 : v 0 4 = nI (2 ^ N - 1) := (at' 0 4 (by decide)).trans d5
  have hpow : 2 ^ N ≤ 2 ^ 11 := Nat.pow_le_pow_right (by decide) hN.2
  have hpp := Nat.two_pow_pos N
  have eL : nL v = 2 := by show (v 0 0).toNatClampNeg = 2; rw [v00]; rfl
  have eP : nP v = P := by show (v 0 1).toNatClampNeg = P; rw [v01, nI_clamp (by omega)]
  have eN : nN v = N := by show (v 0 2).toNatClampNeg = N; rw [v02, nI_clamp (by omega)]
  have eT : nT v = 0 := by show (v 0 3).toNatClampNeg = 0; rw [v03]; rfl
  have eA : nA v = 2 ^ N - 1 := by show (v 0 4).toNatClampNeg = _; rw [v04, nI_clamp (by omega)]
  have v3 : ∀ l, l < 2 → v 3 l = if l = 0 then c0 else c1 := fun l hl => by
    rw [at' 3 l (by decide), show (47 + 3 : Nat) = 50 from rfl, d9 l hl]
    show clV (if l = 0 then cN c0 else cN c1) = _
    by_cases c : l = 0
    · rw [if_pos c, if_pos c]; exact (cN_v h0).1
    · rw [if_neg c, if_neg c]; exact (cN_v h1).1
  have v5 : ∀ p, p < P → v 5 p = oI (ho p) := fun p hp => (at' 5 p (by decide)).trans (d10 p hp)
  have vk : ∀ k, k < N → v 6 k = nI (Y k).1 ∧ v 7 k = nI (Y k).2.1 ∧ v 8 k = nI (Y k).2.2.1 ∧ v 9 k = nI ((Y k).2.2.2.1 + 1) ∧ ∀ s, s < (Y k).2.2.2.1 + 1 → ∀ w, w < 4 → v 10 (32 * k + 4 * s + w) = nI ((Y k).2.2.2.2 s w) := fun k hk => by
    obtain ⟨a1, a2, a3, a4, a5⟩ := d11 k hk
    exact ⟨(at' 6 k (by decide)).trans a1, (at' 7 k (by decide)).trans a2, (at' 8 k (by decide)).trans a3, (at' 9 k (by decide)).trans a4, fun s hs w hw => (at' 10 _ (by decide)).trans (a5 s hs w hw)⟩
  have C : CI v := by
    unfold CI
    rw [eL, eP, eN, eT, eA]
    refine ⟨⟨v00, v01, v02, v03, v04⟩, ⟨by decide, by omega, by omega, by decide, by omega⟩, ⟨?_, ?_, ?_⟩, fun l hl => ?_, fun p hp => ?_, fun k hk => ?_, fun t h => absurd h (Nat.not_lt_zero t)⟩
    · rw [(at' 1 0 (by decide)).trans d6]
      exact inR_n (lo := 0) (hi := 500) (Nat.zero_le _) (by omega) (by omega)
    · rw [(at' 1 1 (by decide)).trans d7]; decide
    · rw [(at' 1 2 (by decide)).trans d8]; decide
    · rw [v3 l hl]
      by_cases c : l = 0
      · rw [if_pos c]; exact ⟨by omega, by omega⟩
      · rw [if_neg c]; exact ⟨by omega, by omega⟩
    · rw [v5 p hp]; exact oI_b (hho p)
    · obtain ⟨a1, a2, a3, a4, a5⟩ := vk k hk
      obtain ⟨y1, y2, y3, y4, y5, y6⟩ := hY k
      have ef : fs v k = (Y k).1 := by show (v 6 k).toNatClampNeg = _; rw [a1, nI_clamp (by omega)]
      have es : sn v k = (Y k).2.1 := by show (v 7 k).toNatClampNeg = _; rw [a2, nI_clamp (by omega)]
      have el : lv v k = (Y k).2.2.1 := by show (v 8 k).toNatClampNeg = _; rw [a3, nI_clamp (by omega)]
      have ec : ct v k = (Y k).2.2.2.1 + 1 := by show (v 9 k).toNatClampNeg = _; rw [a4, nI_clamp (by omega)]
      unfold LI
      rw [ef, es, el, ec, eP, eL]
      refine ⟨a1, a2, y1, y2, y3, a3, y4, a4, by omega, by omega, fun s hs => ?_⟩
      have r := fun w hw => by
        have := gdx_R hw (y6 s w hw).1
        rw [← a5 s hs w hw] at this
        exact this
      exact ⟨r 0 (by decide), r 1 (by decide), r 2 (by decide), r 3 (by decide)⟩
  have Co : CO v μ := ⟨C, hv.symm⟩
  have M : LM v ν := by
    have hpt : lPt ν = P := by unfold lPt; rw [R.1, nI_clamp (by omega)]
    have hln : lLn ν = N := by unfold lLn; rw [R.2.1, nI_clamp (by omega)]
    have hls : lLs ν = N := by unfold lLs; rw [R.2.2.1, nI_clamp (by omega)]
    have hsz : ∀ k, k < N → lSz ν k = (Y k).2.2.2.1 + 1 := fun k hk => by
      unfold lSz
      rw [(A k hk).2.2.2.2.1, nI_clamp (by have := (hY k).2.2.2.2.1; omega)]
    refine ⟨⟨by rw [eP]; exact R.1, by rw [eN]; exact R.2.1, by omega, by omega, by omega, by omega, eL, eT⟩, ?_, fun l hl => ?_, fun p hp => ?_, fun k hk => ?_, ?_, ?_⟩
    · rw [g8]; exact ((at' 1 0 (by decide)).trans d6).symm
    · rw [v3 l hl]
      have : l = 0 ∨ l = 1 := by omega
      rcases this with c | c <;> subst c
      · exact g10
      · exact g11
    · rw [eP] at hp
      rw [g2 p hp, v5 p hp]
    · rw [eN] at hk
      obtain ⟨a1, a2, a3, a4, a5⟩ := vk k hk
      obtain ⟨b1, b2, b3, b4, b5, b6⟩ := A k hk
      have ec : ct v k = (Y k).2.2.2.1 + 1 := by show (v 9 k).toNatClampNeg = _; rw [a4, nI_clamp (by have := (hY k).2.2.2.2.1; omega)]
      refine ⟨b1.trans a1.symm, b2.trans a2.symm, b3.trans a3.symm, ?_, b5.trans a4.symm, fun s hs w hw => ?_⟩
      · rw [b4, eA, Nat.testBit_two_pow_sub_one, decide_eq_true hk, if_pos rfl]
      · rw [ec] at hs
        exact (b6 s hs w hw).trans (a5 s hs w hw).symm
    · unfold lS
      rw [hpt, hln, hls]
      refine ⟨⟨by omega, R.2.1⟩, ⟨by omega, R.1⟩, ⟨by omega, ?_, ?_, R.2.2.1⟩, fun k hk => by rw [hsz k hk]; have := (hY k).2.2.2.2.1; omega⟩
      · rw [R.2.2.2 (by omega), nI_clamp (by split <;> omega)]
        split <;> omega
      · rw [R.2.2.2 (by omega), nI_clamp (by split <;> omega)]
        split <;> omega
    · unfold lF
      rw [hln, hls]
      exact ⟨rfl, by omega, fun k hk => by rw [hsz k hk]; exact Nat.succ_pos _⟩
  rw [← hv]
  exact ⟨Co, M, HA.n z ga, 0, 0, by decide, by decide, z28, z281⟩
theorem l_init (xs : Nat → Int32) : ∃ v q, f_L_init xs = some q ∧ IV v q.1 q.2 ∧ ¬ gi q.1 0 11 = 0 := by
  obtain ⟨q1, hq1, e1⟩ := l_mod (xs 0) (n := 7) (by decide) (by decide)
  obtain ⟨q2, hq2, e2⟩ := l_mod ((xs 0) >>> ((4 : Int32) &&& 31)) (n := 11) (by decide) (by decide)
  obtain ⟨tt, htt, e3⟩ := l_mod ((xs 0) >>> ((9 : Int32) &&& 31)) (n := 200) (by decide) (by decide)
  obtain ⟨q4, hq4, e4⟩ := l_mod (xs 1) (n := 401) (by decide) (by decide)
  obtain ⟨q5, hq5, e5⟩ := l_mod ((xs 1) >>> ((9 : Int32) &&& 31)) (n := 41) (by decide) (by decide)
  obtain ⟨P, hPe⟩ : ∃ P, P = 2 + q1 := ⟨_, rfl⟩
  obtain ⟨N, hNe⟩ : ∃ N, N = 1 + q2 := ⟨_, rfl⟩
  have hP : 2 ≤ P ∧ P ≤ 8 := by omega
  have hN : 1 ≤ N ∧ N ≤ 11 := by omega
  obtain ⟨c0, hc0⟩ : ∃ c0, c0 = nI q4 - (200 : Int32) := ⟨_, rfl⟩
  obtain ⟨c1, hc1⟩ : ∃ c1, c1 = nI q5 - (20 : Int32) := ⟨_, rfl⟩
  have h0 : -200 ≤ c0.toInt ∧ c0.toInt ≤ 200 := by
    have := pk_sub_toInt (a := q4) (b := 200) (by omega) (by decide)
    rw [hc0]
    show -200 ≤ (nI q4 - nI 200).toInt ∧ (nI q4 - nI 200).toInt ≤ 200
    rw [this]; omega
  have h1 : -200 ≤ c1.toInt ∧ c1.toInt ≤ 200 := by
    have := pk_sub_toInt (a := q5) (b := 20) (by omega) (by decide)
    rw [hc1]
    show -200 ≤ (nI q5 - nI 20).toInt ∧ (nI q5 - nI 20).toInt ≤ 200
    rw [this]; omega
  obtain ⟨ho, hho⟩ := Classical.axiomOfChoice (fun p => l_point xs p)
  have hYe : ∀ k, ∃ y : LY, LYok P y ∧ ∀ N ν μ, k < N → N ≤ 11 → LR P N k ν → ∃ ν', f_L_line (nI k) (xs (3 + k)) ν μ = some (lnT y, ν') ∧ (∀ K i, ¬ eLw k K i → gi ν' K i = gi ν K i) ∧ LR P N (k + 1) ν' ∧ LC1 y k ν' ∧ ν'.2 = ν.2 := fun k => by
    obtain ⟨f, s, l, d, x, ok, h⟩ := l_line (xs (3 + k)) hP
    refine ⟨(f, s, l, d, x), ok, fun N ν μ a b c => ?_⟩
    obtain ⟨ν', r1, r2, r3, r4, r5, r6, r7, r8, r9, r10⟩ := h k N ν μ a b c
    exact ⟨ν', r1, r2, r3, ⟨r4, r5, r6, r7, r8, r9⟩, r10⟩
  obtain ⟨Y, hY⟩ := Classical.axiomOfChoice hYe
  have hYk : ∀ k, LYok P (Y k) := fun k => (hY k).1
  obtain ⟨ν0, hν0⟩ : ∃ ν0, ν0 = lν0 (nI P) (nI N) c0 c1 (nI tt) := ⟨_, rfl⟩
  have g10 : gi ν0 1 0 = c0 := by rw [hν0]; rfl
  have g11 : gi ν0 1 1 = c1 := by rw [hν0]; rfl
  have g80 : gi ν0 8 0 = nI tt := by rw [hν0]; rfl
  have g01 : gi ν0 0 1 = nI P := by rw [hν0]; rfl
  have g02 : gi ν0 0 2 = nI N := by rw [hν0]; rfl
  have g0a : gi ν0 0 10 = 0 := by rw [hν0]; rfl
  have g62 : gi ν0 6 2 = 0 := by rw [hν0]; rfl
  obtain ⟨T0, hT0⟩ : ∃ T0, T0 = (stT0 tt ++ lvT 0 (cN c0)) ++ lvT 1 (cN c1) := ⟨_, rfl⟩
  have ls := sdig_l 2 tt (by omega)
  have lS : 15 ≤ (stT0 tt).length ∧ (stT0 tt).length ≤ 18 := by
    unfold stT0
    simp only [List.length_append, List.length_cons, List.length_nil, kSet, kTol]
    constructor <;> omega
  have lT0 : T0.length ≤ 54 ∧ 22 ≤ T0.length := by
    have a := lvT_l (l := 0) (cN_v h0).2.2.1
    have b := lvT_l (l := 1) (cN_v h1).2.2.1
    have c : 8 ≤ (lvT 0 (cN c0)).length := by
      unfold lvT
      simp only [List.length_append, List.length_cons, List.length_nil, kLevel]
      omega
    rw [hT0, List.length_append, List.length_append]
    constructor <;> omega
  obtain ⟨ν1, hν1⟩ : ∃ ν1, ν1 = νP ν0 ho P := ⟨_, rfl⟩
  have lPt' := ptsT_l (fun p x h => (hho p).1 x h) P
  have R0 : LR P N 0 ν1 := by
    rw [hν1]
    exact ⟨(νP_o (by decide) P).trans g01, (νP_o (by decide) P).trans g02, (νP_o (by decide) P).trans g62, fun h => absurd rfl h⟩
  obtain ⟨ν2, e6, R2, A2, B2, -⟩ := l_lns (xs := xs) hYk (fun k N ν μ a b c => (hY k).2 N ν μ a b c) hN.2 (T1 := T0 ++ ptsT ho P) (by rw [List.length_append]; omega) R0 gμ0
  obtain ⟨T, hT⟩ : ∃ T, T = (T0 ++ ptsT ho P) ++ lnsT Y N := ⟨_, rfl⟩
  have lTl := lnsT_l hYk N
  have lT : T.length ≤ 1000 ∧ 22 ≤ T.length := by
    rw [hT, List.length_append, List.length_append]
    constructor <;> omega
  have bT8 : ∀ x, x ∈ T → x < 128 := by
    rw [hT, hT0]
    exact fa_app (fa_app (fa_app (fa_app b_st (b_lv (by decide))) (b_lv (by decide))) (b_pts P (by omega))) (b_lns hP.2 hYk N)
  have xT : T = xAll tt (fun l => if l = 0 then cN c0 else cN c1) ho (fun k => (Y k).1) (fun k => (Y k).2.1) (fun k => (Y k).2.2.1) (fun k => (Y k).2.2.2.1 + 1) (fun k => (Y k).2.2.2.2) P N := by
    have x1 := lnsT_x hYk N 0
    rw [Nat.zero_add] at x1
    have x2 := ptsT_x (ho := ho) (R := xLns (fun k => (Y k).1) (fun k => (Y k).2.1) (fun k => (Y k).2.2.1) (fun k => (Y k).2.2.2.1 + 1) (fun k => (Y k).2.2.2.2) N 0) P 0
    rw [Nat.zero_add] at x2
    have x1' : xLns (fun k => (Y k).1) (fun k => (Y k).2.1) (fun k => (Y k).2.2.1) (fun k => (Y k).2.2.2.1 + 1) (fun k => (Y k).2.2.2.2) N 0 = lnsT Y N := x1
    have x2' : xPts ho (xLns (fun k => (Y k).1) (fun k => (Y k).2.1) (fun k => (Y k).2.2.1) (fun k => (Y k).2.2.2.1 + 1) (fun k => (Y k).2.2.2.2) N 0) P 0 = ptsT ho P ++ lnsT Y N := by rw [← x1']; exact x2
    unfold xAll
    rw [x2', hT, hT0]
    unfold xSet xLev stT0 lvT
    rw [xLt_app (R := kLevel ++ _), xLt_app (R := ptsT ho P ++ _)]
    simp only [List.append_assoc, List.cons_append, List.nil_append]
    rfl
  obtain ⟨μp, e7, X7, h11, f7, -⟩ := l_put (μ := gμ0) bT8 lT.1 rfl
  obtain ⟨μ', ρ, e8, D8, m8, z8, y8, w8⟩ := rd_load (n := T.length) (P := P) (C := N) (tt := tt) (cl := fun l => if l = 0 then cN c0 else cN c1) (ho := ho) (ff := fun k => (Y k).1) (ss := fun k => (Y k).2.1) (ll := fun k => (Y k).2.2.1) (cc := fun k => (Y k).2.2.2.1 + 1) (rr := fun k => (Y k).2.2.2.2) (by omega) h11 (by omega) (by rw [← xT]; exact X7) (by omega) (fun l => by
    show (if l = 0 then cN c0 else cN c1).1 ≤ 200
    split
    · exact (cN_v h0).2.2.1
    · exact (cN_v h1).2.2.1) (by omega) (fun p x h => by have := (hho p).1 x h; omega) (by omega) (fun k => ⟨Nat.succ_pos _, by have := (hYk k).2.2.2.2.1; show (Y k).2.2.2.1 + 1 ≤ 7; omega⟩) (fun k _ => ⟨(hYk k).1, (hYk k).2.1, (hYk k).2.2.1, (hYk k).2.2.2.1⟩) (fun k s w hw => ((hYk k).2.2.2.2.2 s w hw).1)
  obtain ⟨ν3, hν3⟩ : ∃ ν3, ν3 = si ν2 0 11 (1 : Int32) := ⟨_, rfl⟩
  have k3 : ∀ K i, (K ≠ 0 ∨ i ≠ 11) → gi ν3 K i = gi ν2 K i := fun K i h => by rw [hν3, gi_si, if_neg (by omega)]
  have b2 : ∀ K i, (K < 4 ∨ K = 8) → K ≠ 2 → gi ν2 K i = gi ν0 K i := fun K i h h2 => (B2 K i h).trans (by rw [hν1]; exact νP_o h2 P)
  have IVf : IV (nv 34 μ') ν3 μ' := by
    refine fin_IV hP hN (tt := tt) (by omega) h0 h1 (fun p x h => (hho p).1 x h) hYk D8 m8 z8 y8 (w8.trans ((f7 28 1 (by omega) (by decide)).trans rfl)) ⟨(k3 0 1 (by omega)).trans R2.1, (k3 0 2 (by omega)).trans R2.2.1, (k3 6 2 (by omega)).trans R2.2.2.1, fun h => (k3 7 0 (by omega)).trans (R2.2.2.2 h)⟩ (fun j hj => ?_) ((k3 8 0 (by omega)).trans ((b2 8 0 (by omega) (by decide)).trans g80)) ((k3 1 0 (by omega)).trans ((b2 1 0 (by omega) (by decide)).trans g10)) ((k3 1 1 (by omega)).trans ((b2 1 1 (by omega) (by decide)).trans g11)) (fun p hp => (k3 2 p (by omega)).trans ((B2 2 p (by omega)).trans (by rw [hν1]; exact νP_2 P hp))) ((k3 0 10 (by omega)).trans ((b2 0 10 (by omega) (by decide)).trans g0a))
    obtain ⟨a1, a2, a3, a4, a5, a6⟩ := A2 j hj
    exact ⟨(k3 _ _ (by omega)).trans a1, (k3 _ _ (by omega)).trans a2, (k3 _ _ (by omega)).trans a3, (k3 _ _ (by omega)).trans a4, (k3 _ _ (by omega)).trans a5, fun s' hs' w hw => (k3 _ _ (by omega)).trans (a6 s' hs' w hw)⟩
  refine ⟨nv 34 μ', (ν3, μ'), ?_, IVf, by show ¬ gi ν3 0 11 = 0; rw [hν3, gi_sii]; decide⟩
  unfold f_L_init
  rw [show (7 : Int32) = nI 7 from rfl, e1, Option.bind_some, show (11 : Int32) = nI 11 from rfl, e2, Option.bind_some, show (2 : Int32) + nI q1 = nI P from (nI_add 2 q1).trans (by rw [hPe]), show (1 : Int32) + nI q2 = nI N from (nI_add 1 q2).trans (by rw [hNe]), gckb ⟨gIn_nI (by omega) (by omega), gIn_nI (by omega) (by omega)⟩, show (200 : Int32) = nI 200 from rfl, e3, Option.bind_some, show (401 : Int32) = nI 401 from rfl, e4, Option.bind_some, show (41 : Int32) = nI 41 from rfl, e5, Option.bind_some, show nI q4 - nI 200 = c0 from hc0.symm, ← hc1, ← hν0]
  rw [i193 g80 (by omega) (by rw [g10]; exact h0) (by rw [g11]; exact h1), g10, g11, ← hT0]
  unfold j_Ln_300
  rw [l_pts hho hP.2 (by omega) g01 gμ0, Option.bind_some, ← hν1]
  show Option.bind (gloop (fun t => b_Ln_430 xs t.1 t.2.1 t.2.2 gμ0) 12 ((0 : Int32), T0 ++ ptsT ho P, ν1)) _ = _
  rw [e6, Option.bind_some, ← hT, gckb ⟨fun x hx => by have := bT8 x hx; omega, lT.1⟩, e7, Option.bind_some, e8, Option.bind_some, if_neg (nI_pos (by omega)), ← hν3]
end FIN

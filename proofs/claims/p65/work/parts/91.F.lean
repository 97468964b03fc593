/-! the law writes its points and lines -/
section LPP
def ptT (p : Nat) (o : Option Nat) : List Nat := kPoint ++ (32 :: ([112, 97 + p] ++ xPo [] o))
theorem ptT_l {p : Nat} {o : Option Nat} (h : ∀ x, o = some x → x ≤ 199999) : (ptT p o).length ≤ 16 := by
  unfold ptT xPo
  cases o with
  | none =>
    simp only [List.length_append, List.length_cons, List.length_nil, kPoint]
    omega
  | some x =>
    have := sdig_l 5 x (by have := h x rfl; omega)
    simp only [List.length_append, List.length_cons, List.length_nil, kPoint]
    omega
theorem l_point (xs : Nat → Int32) (p : Nat) : ∃ o : Option Nat, (∀ x, o = some x → x ≤ 199999) ∧ ∀ (t9 : List Nat) (ν μ : gM) (P : Nat), gi ν 0 1 = nI P → p < P → P ≤ 8 → t9.length ≤ 900 → b_Ln_302 xs (nI p) t9 ν μ = some (.inl (nI (p + 1), t9 ++ ptT p o, si ν 2 p (oI o))) := by
  obtain ⟨q, hq, eq⟩ := l_mod (xs 2 >>> (((3 : Int32) * nI p) &&& 31)) (n := 5) (by decide) (by decide)
  obtain ⟨h, hh, eh⟩ := l_mod (xs 2 >>> (nI p &&& 31)) (n := 200000) (by decide) (by decide)
  have a97 : ∀ y : Nat, (97 : Int32) + nI y = nI (97 + y) := fun y => nI_add 97 y
  by_cases c : q = 0
  · refine ⟨some h, (fun x hx => by cases hx; omega), fun t9 ν μ P h1 hp hP ht => ?_⟩
    have ls := sdig_l 5 h (by omega)
    unfold b_Ln_302
    rw [h1, if_neg (nI_ge hp (by omega)), show (5 : Int32) = nI 5 from rfl, eq μ, Option.bind_some, if_pos (by rw [c]; rfl), show (200000 : Int32) = nI 200000 from rfl, eh μ, Option.bind_some]
    simp (disch := omega) only [gck, nI_clamp]
    simp only [Option.bind_some, List.nil_append, lx5, lx3, lx1, gi_sii, a97, nI_1]
    rw [if_pos (nI_pos' (by omega))]
    simp (disch := omega) only [gck, nI_clamp]
    rw [gckb (by simp only [List.length_nil]; omega), gckb (by simp only [List.length_append, List.length_cons, List.length_nil, kPoint]; omega), gckb ⟨gIn_nI (by omega) (by omega), by simp only [List.length_append, List.length_cons, List.length_nil, kPoint]; omega⟩, gckb (by simp only [List.length_cons, List.length_nil]; omega), gckb ⟨gIn_nI (by omega) (by omega), by simp only [List.length_append, List.length_cons, List.length_nil]; omega⟩, gckb (by simp only [List.length_append, List.length_cons, List.length_nil]; omega), gckb (by simp only [List.length_append, List.length_cons, List.length_nil, kPoint]; omega)]
    unfold ptT xPo
    simp only [List.append_assoc, List.cons_append, List.nil_append]
    rfl
  · refine ⟨none, (fun x hx => by cases hx), fun t9 ν μ P h1 hp hP ht => ?_⟩
    unfold b_Ln_302
    rw [h1, if_neg (nI_ge hp (by omega)), show (5 : Int32) = nI 5 from rfl, eq μ, Option.bind_some, if_neg (nI_ne0 (by omega) (by omega))]
    simp (disch := omega) only [gck, nI_clamp]
    simp only [Option.bind_some, List.nil_append, lx5, lx1, gi_sii, a97, nI_1]
    rw [if_neg (show ¬ (0 : Int32) ≤ -1 by decide)]
    simp (disch := omega) only [gck, nI_clamp]
    rw [gckb (by simp only [List.length_nil]; omega), gckb (by simp only [List.length_append, List.length_cons, List.length_nil, kPoint]; omega), gckb ⟨gIn_nI (by omega) (by omega), by simp only [List.length_append, List.length_cons, List.length_nil, kPoint]; omega⟩, gckb (by simp only [List.length_append, List.length_cons, List.length_nil, kPoint]; omega)]
    unfold ptT xPo
    simp only [List.append_assoc, List.cons_append, List.nil_append]
    rfl
def ptsT (ho : Nat → Option Nat) : Nat → List Nat
  | 0 => []
  | p + 1 => ptsT ho p ++ ptT p (ho p)
def νP (ν : gM) (ho : Nat → Option Nat) : Nat → gM
  | 0 => ν
  | p + 1 => si (νP ν ho p) 2 p (oI (ho p))
theorem ptsT_l {ho : Nat → Option Nat} (h : ∀ p x, ho p = some x → x ≤ 199999) : ∀ p, (ptsT ho p).length ≤ 16 * p
  | 0 => Nat.zero_le _
  | p + 1 => by
    have a := ptsT_l h p
    have b := ptT_l (p := p) (h p)
    show (ptsT ho p ++ ptT p (ho p)).length ≤ _
    rw [List.length_append]; omega
theorem νP_o {ν : gM} {ho : Nat → Option Nat} {K i : Nat} (h : K ≠ 2) : ∀ p, gi (νP ν ho p) K i = gi ν K i
  | 0 => rfl
  | p + 1 => (gi_sik h).trans (νP_o h p)
theorem νP_2 {ν : gM} {ho : Nat → Option Nat} {j : Nat} : ∀ p, j < p → gi (νP ν ho p) 2 j = oI (ho j)
  | 0, h => absurd h (Nat.not_lt_zero j)
  | p + 1, h => by
    show gi (si (νP ν ho p) 2 p (oI (ho p))) 2 j = _
    by_cases c : j = p
    · rw [c, gi_sii]
    · rw [gi_sij c]; exact νP_2 p (by omega)
theorem ptsT_x {ho : Nat → Option Nat} {R : List Nat} : ∀ m p, ptsT ho p ++ xPts ho R m p = ptsT ho (p + m) ++ R
  | 0, p => rfl
  | m + 1, p => by
    have e := ptsT_x (ho := ho) (R := R) m (p + 1)
    rw [show p + (m + 1) = p + 1 + m by omega, ← e]
    show ptsT ho p ++ (kPoint ++ (32 :: ([112, 97 + p] ++ xPo (xPts ho R m (p + 1)) (ho p)))) = (ptsT ho p ++ (kPoint ++ (32 :: ([112, 97 + p] ++ xPo [] (ho p))))) ++ xPts ho R m (p + 1)
    cases ho p <;> unfold xPo <;> simp only [List.append_assoc, List.cons_append, List.nil_append]
theorem l_pts {xs : Nat → Int32} {ho : Nat → Option Nat} (hho : ∀ p, (∀ x, ho p = some x → x ≤ 199999) ∧ ∀ (t9 : List Nat) (ν μ : gM) (P : Nat), gi ν 0 1 = nI P → p < P → P ≤ 8 → t9.length ≤ 900 → b_Ln_302 xs (nI p) t9 ν μ = some (.inl (nI (p + 1), t9 ++ ptT p (ho p), si ν 2 p (oI (ho p))))) {P : Nat} (hP : P ≤ 8) {T0 : List Nat} (hT : T0.length ≤ 60) {ν : gM} (h1 : gi ν 0 1 = nI P) (μ : gM) : gloop (fun t => b_Ln_302 xs t.1 t.2.1 t.2.2 μ) 9 ((0 : Int32), T0, ν) = some (T0 ++ ptsT ho P, νP ν ho P) := by
  have g := gloop_run (body := fun (t : Int32 × List Nat × gM) => b_Ln_302 xs t.1 t.2.1 t.2.2 μ) (fun i => (nI i, T0 ++ ptsT ho i, νP ν ho i)) P (r := (T0 ++ ptsT ho P, νP ν ho P)) (fun i hi => by
    have hl := ptsT_l (fun p x h => (hho p).1 x h) i
    show b_Ln_302 xs (nI i) (T0 ++ ptsT ho i) (νP ν ho i) μ = _
    rw [(hho i).2 _ _ μ P ((νP_o (by decide) i).trans h1) hi hP (by rw [List.length_append]; omega), List.append_assoc]
    rfl) (by
    show b_Ln_302 xs (nI P) (T0 ++ ptsT ho P) (νP ν ho P) μ = _
    unfold b_Ln_302
    rw [(νP_o (ν := ν) (ho := ho) (K := 0) (i := 1) (by decide) P).trans h1, if_pos (nI_le (Nat.le_refl _) (by omega))]) 9 (by omega)
  rw [show T0 ++ ptsT ho 0 = T0 from List.append_nil _] at g
  exact g
abbrev LY : Type := Nat × Nat × Nat × Nat × (Nat → Nat → Nat)
def lnT (y : LY) : List Nat := lnH y.1 y.2.1 y.2.2.1 ++ (stN y.2.2.2.2 (y.2.2.2.1 + 1) ++ [59])
def LC1 (y : LY) (k : Nat) (ν : gM) : Prop := gi ν (20 + k) 0 = nI y.1 ∧ gi ν (20 + k) 1 = nI y.2.1 ∧ gi ν 4 k = nI y.2.2.1 ∧ gi ν 5 k = 1 ∧ gi ν (40 + k) 2 = nI (y.2.2.2.1 + 1) ∧ ∀ s', s' < y.2.2.2.1 + 1 → ∀ w, w < 4 → gi ν (100 + 8 * k + s') w = nI (y.2.2.2.2 s' w)
def LYok (P : Nat) (y : LY) : Prop := y.1 < P ∧ y.2.1 < P ∧ y.1 ≠ y.2.1 ∧ y.2.2.1 < 2 ∧ y.2.2.2.1 < 3 ∧ ∀ s w, w < 4 → gdx w (y.2.2.2.2 s w) ∧ y.2.2.2.2 s w < 4100
theorem stT_l2 {x : Nat → Nat} (h : ∀ w, w < 4 → gdx w (x w) ∧ x w < 4100) : (stT x).length ≤ 18 := by
  have a := sdig_l 3 (x 0) (by have := (h 0 (by decide)).2; omega)
  have b := sdig_l 3 (x 1) (by have := (h 1 (by decide)).2; omega)
  have c := sdig_l 2 (x 2) (by have := ((h 2 (by decide)).1.2 (by decide)).2; omega)
  have e := sdig_l 2 (x 3) (by have := ((h 3 (by decide)).1.2 (by decide)).2; omega)
  unfold stT
  simp only [List.length_cons, List.length_append]
  omega
theorem lnT_l {P : Nat} {y : LY} (h : LYok P y) : (lnT y).length ≤ 68 := by
  obtain ⟨-, -, -, -, hd, hx⟩ := h
  have l : ∀ n, (stN y.2.2.2.2 n).length ≤ 18 * n := fun n => by
    induction n with
    | zero => exact Nat.zero_le _
    | succ n ih =>
      show (stN y.2.2.2.2 n ++ stT (y.2.2.2.2 n)).length ≤ _
      have := stT_l2 (x := y.2.2.2.2 n) (fun w hw => hx n w hw)
      rw [List.length_append]; omega
  have := l (y.2.2.2.1 + 1)
  unfold lnT lnH
  simp only [List.length_append, List.length_cons, List.length_nil, kLine]
  omega
def lnsT (Y : Nat → LY) : Nat → List Nat
  | 0 => []
  | k + 1 => lnsT Y k ++ lnT (Y k)
theorem lnsT_l {P : Nat} {Y : Nat → LY} (h : ∀ k, LYok P (Y k)) : ∀ k, (lnsT Y k).length ≤ 68 * k
  | 0 => Nat.zero_le _
  | k + 1 => by
    have a := lnsT_l h k
    have b := lnT_l (h k)
    show (lnsT Y k ++ lnT (Y k)).length ≤ _
    rw [List.length_append]; omega
theorem lnsT_x {P : Nat} {Y : Nat → LY} (h : ∀ k, LYok P (Y k)) : ∀ m k, lnsT Y k ++ xLns (fun k => (Y k).1) (fun k => (Y k).2.1) (fun k => (Y k).2.2.1) (fun k => (Y k).2.2.2.1 + 1) (fun k => (Y k).2.2.2.2) m k = lnsT Y (k + m)
  | 0, k => List.append_nil _
  | m + 1, k => by
    have e := lnsT_x h m (k + 1)
    rw [show k + (m + 1) = k + 1 + m by omega, ← e]
    show lnsT Y k ++ (kLine ++ (32 :: ([112, 97 + (Y k).1] ++ (32 :: ([112, 97 + (Y k).2.1] ++ (32 :: ([108, 97 + (Y k).2.2.1] ++ Qn (Y k).2.2.2.2 _ ((Y k).2.2.2.1 + 1) 0))))))) = (lnsT Y k ++ lnT (Y k)) ++ _
    rw [Qn_app, Qn_st (h k).2.2.2.2.1]
    unfold lnT lnH
    simp only [List.append_assoc, List.cons_append, List.nil_append]
theorem l_lns {xs : Nat → Int32} {P N : Nat} {Y : Nat → LY} (hY : ∀ k, LYok P (Y k)) (hL : ∀ k N ν μ, k < N → N ≤ 11 → LR P N k ν → ∃ ν', f_L_line (nI k) (xs (3 + k)) ν μ = some (lnT (Y k), ν') ∧ (∀ K i, ¬ eLw k K i → gi ν' K i = gi ν K i) ∧ LR P N (k + 1) ν' ∧ LC1 (Y k) k ν' ∧ ν'.2 = ν.2) (hN : N ≤ 11) {T1 : List Nat} (hT : T1.length ≤ 200) {ν : gM} (R : LR P N 0 ν) (μ : gM) : ∃ ν', gloop (fun t => b_Ln_430 xs t.1 t.2.1 t.2.2 μ) 12 ((0 : Int32), T1, ν) = some (T1 ++ lnsT Y N, ν') ∧ LR P N N ν' ∧ (∀ j, j < N → LC1 (Y j) j ν') ∧ (∀ K i, (K < 4 ∨ K = 8) → gi ν' K i = gi ν K i) ∧ ν'.2 = ν.2 := by
  have g : ∃ r, gloop (fun (t : Int32 × List Nat × gM) => b_Ln_430 xs t.1 t.2.1 t.2.2 μ) 12 ((0 : Int32), T1, ν) = some r ∧ ∃ ν', r = (T1 ++ lnsT Y N, ν') ∧ LR P N N ν' ∧ (∀ j, j < N → LC1 (Y j) j ν') ∧ (∀ K i, (K < 4 ∨ K = 8) → gi ν' K i = gi ν K i) ∧ ν'.2 = ν.2 := by
    refine gloop_relN (fun k (t : Int32 × List Nat × gM) => ∃ ν', t = (nI k, T1 ++ lnsT Y k, ν') ∧ LR P N k ν' ∧ (∀ j, j < k → LC1 (Y j) j ν') ∧ (∀ K i, (K < 4 ∨ K = 8) → gi ν' K i = gi ν K i) ∧ ν'.2 = ν.2) _ N 12 (fun k t hk hR => ?_) (by omega) ⟨ν, by rw [show T1 ++ lnsT Y 0 = T1 from List.append_nil _]; rfl, R, fun j hj => absurd hj (Nat.not_lt_zero j), fun _ _ _ => rfl, rfl⟩
    obtain ⟨ν', rfl, R', A, B, C⟩ := hR
    show (∃ t, b_Ln_430 xs (nI k) (T1 ++ lnsT Y k) ν' μ = _ ∧ _) ∨ ∃ r, b_Ln_430 xs (nI k) (T1 ++ lnsT Y k) ν' μ = _ ∧ _
    unfold b_Ln_430
    rw [R'.2.1]
    by_cases c : k = N
    · right
      rw [if_pos (nI_le (by omega) (by omega))]
      exact ⟨_, rfl, ν', by rw [c], by rw [← c]; rw [c] at R' ⊢; exact R', fun j hj => A j (by omega), B, C⟩
    · left
      have hkl : k < N := by omega
      obtain ⟨ν2, e2, F2, R2, L2, C2⟩ := hL k N ν' μ hkl hN R'
      have hl := lnsT_l hY k
      have hl1 := lnT_l (hY k)
      rw [if_neg (nI_ge hkl (by omega)), gckb (by simp only [List.length_nil, List.length_append]; omega), Option.bind_some, show (3 : Int32) + nI k = nI (3 + k) from nI_add 3 k, gck (by omega) (by decide), nI_clamp (by omega), e2, Option.bind_some, List.nil_append, gckb (by simp only [List.length_append]; omega), Option.bind_some, nI_1, List.append_assoc]
      refine ⟨_, rfl, ⟨ν2, rfl, R2, fun j hj => ?_, fun K i h => ?_, C2.trans C⟩, hkl⟩
      · by_cases d : j = k
        · rw [d]; exact L2
        · have hjk : j < k := by omega
          obtain ⟨a1, a2, a3, a4, a5, a6⟩ := A j hjk
          have ds := (hY j).2.2.2.2.1
          have ne : ∀ K i, K ≠ 20 + k → (K ≠ 4 ∨ i ≠ k) → (K ≠ 5 ∨ i ≠ k) → K ≠ 6 → K ≠ 7 → K ≠ 40 + k → (K < 100 + 8 * k ∨ 108 + 8 * k ≤ K) → ¬ eLw k K i := fun K i b1 b2 b3 b4 b5 b6 b7 w => by unfold eLw at w; omega
          exact ⟨(F2 _ _ (ne _ _ (by omega) (by omega) (by omega) (by omega) (by omega) (by omega) (by omega))).trans a1, (F2 _ _ (ne _ _ (by omega) (by omega) (by omega) (by omega) (by omega) (by omega) (by omega))).trans a2, (F2 _ _ (ne _ _ (by omega) (by omega) (by omega) (by omega) (by omega) (by omega) (by omega))).trans a3, (F2 _ _ (ne _ _ (by omega) (by omega) (by omega) (by omega) (by omega) (by omega) (by omega))).trans a4, (F2 _ _ (ne _ _ (by omega) (by omega) (by omega) (by omega) (by omega) (by omega) (by omega))).trans a5, fun s' hs' w hw => (F2 _ _ (ne _ _ (by omega) (by omega) (by omega) (by omega) (by omega) (by omega) (by omega))).trans (a6 s' hs' w hw)⟩
      · exact (F2 K i (by unfold eLw; omega)).trans (B K i h)
  obtain ⟨r, hr, ν', rfl, A⟩ := g
  exact ⟨ν', hr, A⟩
end LPP

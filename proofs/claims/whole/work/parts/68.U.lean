/-! undo -/
def tkB (K I B : Int32) (M : gM) : Option gM := if K = 0 then gchk (gIn I 16) (some (si M 39 I.toNatClampNeg B)) else if K = 1 then gchk (gIn I 640) (some (si M 44 I.toNatClampNeg B)) else if K = 2 then gchk (gIn I 20) (some (si M 43 I.toNatClampNeg B)) else if K = 3 then some (si M 34 4 B) else if K = 4 then gchk (gIn I 3) (some (si M 37 I.toNatClampNeg B)) else if K = 5 then gchk (gIn I 3) (some (si M 35 I.toNatClampNeg B)) else some M
def tkM (μ : gM) (m q : Nat) : gM := cpl (si (si μ 28 0 (nI m)) 20 2 (μ.1 32 q)) 33 22 (16 * q) 0 16
theorem c_take {μ : gM} {m o : Nat} (hn : gi μ 28 0 = nI (m + 1)) (ho : gi μ 28 1 = nI o) (hm : m < 8) (h8 : o < 8) (hz : μ.1 32 ((o + m) % 8) = 0 ∨ μ.1 32 ((o + m) % 8) = 1) : f_X1_takeBack μ = tkB (μ.1 29 ((o + m) % 8)) (μ.1 30 ((o + m) % 8)) (μ.1 31 ((o + m) % 8)) (tkM μ m ((o + m) % 8)) := by
  obtain ⟨q, hq⟩ : ∃ q, q = (o + m) % 8 := ⟨_, rfl⟩
  rw [← hq] at hz ⊢
  have hq8 : q < 8 := by omega
  have z0 : (0 : Int32).toNatClampNeg = 0 := by decide
  have z16 : (16 : Int32).toNatClampNeg = 16 := by decide
  have q0 : gi (si μ 28 0 (nI m)) 28 0 = nI m := gi_sii
  have q1 : gi (si μ 28 0 (nI m)) 28 1 = nI o := (gi_sij (by decide)).trans ho
  have q32 : gi (si μ 28 0 (nI m)) 32 q = μ.1 32 q := gi_sik (by decide)
  have e : (nI o + nI m) - (nI o + nI m) / (8 : Int32) * (8 : Int32) = nI q := by rw [nI_add, rem8 (by omega), hq]
  have e16 : nI q * (16 : Int32) = nI (16 * q) := by rw [n16, pk_mul, Nat.mul_comm]
  unfold f_X1_takeBack
  rw [hn, nI_pred, q0, q1, e, e16, gckb (show ¬ (8 : Int32) = 0 by decide), gck hq8 (by decide), gckb (show gBool (gi (si μ 28 0 (nI m)) 32 (nI q).toNatClampNeg) by rw [nI_clamp (by omega), q32]; exact hz), gckb (nI_pos (show 16 * q < 2 ^ 31 by omega)), gckb (show ¬ (0 : Int32) < 0 by decide), gckb (show ¬ (16 : Int32) < 0 by decide), gckb (show (nI (16 * q)).toNatClampNeg + (16 : Int32).toNatClampNeg ≤ 128 by rw [nI_clamp (show 16 * q < 2 ^ 31 by omega), z16]; omega), gckb (show (0 : Int32).toNatClampNeg + (16 : Int32).toNatClampNeg ≤ 16 by decide), gck hq8 (by decide), gck hq8 (by decide), gck hq8 (by decide)]
  rw [z0, z16, nI_clamp (show q < 2 ^ 31 by omega), nI_clamp (show 16 * q < 2 ^ 31 by omega), q32]
  rfl
theorem m_undo {μ : gM} {m : Nat} (hn : gi μ 60 5 = nI (m + 1)) (h7 : m ≤ 7) : ∃ ν, f_X8_undo μ = some (nI m, ν) ∧ gi ν 60 5 = nI m ∧ (∀ j, ν.1 61 j = cpI (μ.1 61) (fun i => μ.1 63 (703 * m + i)) 0 703 j) ∧ (∀ j, ν.2 64 j = cpL (μ.2 64) (fun i => μ.2 65 (16 * m + i)) 0 16 j) ∧ (∀ k i, k ≠ 61 → (k ≠ 60 ∨ (i ≠ 5 ∧ i ≠ 6)) → ν.1 k i = μ.1 k i) ∧ ∀ k i, k ≠ 64 → ν.2 k i = μ.2 k i := by
  obtain ⟨μa, ha⟩ : ∃ μa, μa = si (si μ 60 6 0) 60 5 (nI m) := ⟨_, rfl⟩
  have a5 : gi μa 60 5 = nI m := by rw [ha, gi_sii]
  have ak : ∀ k i, (k ≠ 60 ∨ (i ≠ 5 ∧ i ≠ 6)) → μa.1 k i = μ.1 k i := fun k i hk => by
    rw [ha]
    simp only [si]
    rw [if_neg (by omega), if_neg (by omega)]
  have al : μa.2 = μ.2 := by rw [ha]; rfl
  obtain ⟨ν1, e1, F1, G1, L1⟩ := gcpI (body := fun t => b_X8_undo_26 t.1 t.2) (μ := μa) 61 0 703 (fun i => 0 + i) (fun i => μ.1 63 (703 * m + i)) (fun i => cpI (μ.1 61) (fun i => μ.1 63 (703 * m + i)) 0 i) (fun j => (ak 61 j (Or.inl (by decide))).trans cpI_0) (fun i j _ => cpI_s) (fun i ν hi F => by
    show b_X8_undo_26 (nI (0 + i)) ν = _
    have h5 : gi ν 60 5 = nI m := (F.1 60 5 (by decide)).trans a5
    have h6 : gi ν 63 (703 * m + i) = μ.1 63 (703 * m + i) := (F.1 63 _ (by decide)).trans (ak 63 _ (Or.inl (by decide)))
    unfold b_X8_undo_26
    rw [Nat.zero_add, if_neg (show ¬ (703 : Int32) ≤ nI i from nI_ge (b := 703) hi (by decide)), h5, show (703 : Int32) = nI 703 from rfl, pk_mul, nI_add, Nat.mul_comm m 703]
    simp (disch := omega) only [gck, nI_clamp, nI_1]
    rw [h6]) (fun ν F => by
    show b_X8_undo_26 (nI (0 + 703)) ν = _
    unfold b_X8_undo_26
    rw [if_pos (by decide)]) (by unfold gFuel; omega)
  obtain ⟨ν2, e2, F2, G2, L2⟩ := gcpL (body := fun t => b_X8_undo_62 t.1 t.2) (μ := ν1) 64 0 16 (fun i => 0 + i) (fun i => μ.2 65 (16 * m + i)) (fun i => cpL (μ.2 64) (fun i => μ.2 65 (16 * m + i)) 0 i) (fun j => by rw [L1, al]; exact cpL_0) (fun i j _ => cpL_s) (fun i ν hi F => by
    show b_X8_undo_62 (nI (0 + i)) ν = _
    have h5 : gi ν 60 5 = nI m := by
      show ν.1 60 5 = _
      rw [F.1]; exact (F1 60 5 (by decide)).trans a5
    have h6 : gl ν 65 (16 * m + i) = μ.2 65 (16 * m + i) := by
      have := F.2.1 65 (16 * m + i) (by decide)
      rw [L1, al] at this; exact this
    unfold b_X8_undo_62
    rw [Nat.zero_add, if_neg (ge16 hi), h5, n16, pk_mul, nI_add, Nat.mul_comm m 16]
    simp (disch := omega) only [gck, nI_clamp, nI_1]
    rw [h6]) (fun ν F => by
    show b_X8_undo_62 (nI (0 + 16)) ν = _
    unfold b_X8_undo_62
    rw [if_pos (by decide)]) (by unfold gFuel; omega)
  have h5 : gi ν2 60 5 = nI m := by
    show ν2.1 60 5 = _
    rw [F2]; exact (F1 60 5 (by decide)).trans a5
  refine ⟨ν2, ?_, h5, fun j => ?_, fun j => L2 j, fun k i hk hk2 => ?_, fun k i hk => ?_⟩
  · unfold f_X8_undo
    rw [show gi (si μ 60 6 0) 60 5 = nI (m + 1) from (gi_sij (by decide)).trans hn, if_neg (nI_ne0 (by omega) (by omega)), nI_pred, ← ha, show (0 : Int32) = nI 0 from rfl, e1, Option.bind_some, e2, Option.bind_some, h5]
  · show ν2.1 61 j = _
    rw [F2]; exact G1 j
  · rw [F2, F1 k i hk, ak k i hk2]
  · rw [G2 k i hk, L1, al]
section GU
variable {μ : gM}
theorem tk_f {m q K : Nat} {i : Nat} {x : Int32} (hK : 34 ≤ K ∧ K < 47) : (∀ k b, k < 34 ∨ 46 < k → (k ≠ 28 ∨ b ≠ 0) → (k ≠ 20 ∨ b ≠ 2) → (si (tkM μ m q) K i x).1 k b = μ.1 k b) ∧ gi (si (tkM μ m q) K i x) 28 0 = nI m ∧ gi (si (tkM μ m q) K i x) 20 2 = μ.1 32 q ∧ (∀ k b, k ≠ 22 → (si (tkM μ m q) K i x).2 k b = μ.2 k b) ∧ ∀ p, p < 16 → (si (tkM μ m q) K i x).2 22 p = μ.2 33 (16 * q + p) := by
  refine ⟨fun k b h1 h2 h3 => ?_, ?_, ?_, fun k b hk => ?_, fun p hp => ?_⟩
  · rw [si1 (by omega)]
    unfold tkM
    simp only [si, cpl]
    rw [if_neg (by omega), if_neg (by omega)]
  · show (si (tkM μ m q) K i x).1 28 0 = _
    rw [si1 (by omega)]; rfl
  · show (si (tkM μ m q) K i x).1 20 2 = _
    rw [si1 (by omega)]; rfl
  · unfold tkM
    simp only [si, cpl]
    rw [if_neg (fun w => hk w.1)]
  · show (if (22 : Nat) = 22 ∧ 0 ≤ p ∧ p < 0 + 16 then μ.2 33 (16 * q + (p - 0)) else μ.2 22 p) = _
    rw [if_pos ⟨rfl, by omega, by omega⟩, Nat.sub_zero]
theorem tk_nv {m q : Nat} : nv 34 (tkM μ m q) = nv 34 μ := nv_cg (fun k i h1 h2 => by
  unfold tkM
  simp only [si, cpl]
  rw [if_neg (by omega), if_neg (by omega)])
theorem undo_fin {m o : Nat} {w v2 : Nat → Nat → Int32} {μ3 : gM} (R : Rel μ) (hm : m < 8) (h8 : o < 8) (h28 : gi μ 28 1 = nI o) (h60 : gi μ 60 5 = nI (m + 1)) (Cw : CI w) (Dw : DM w (fun i => μ.1 63 (703 * m + i))) (Hw : HM w (μ.1 32 ((o + m) % 8)) (fun p => μ.2 33 (16 * ((o + m) % 8) + p)) (fun i => μ.1 63 (703 * m + i)) (fun p => μ.2 65 (16 * m + p))) (Rw : RH (μ.1 29) (μ.1 30) (μ.1 31) (μ.1 32) (μ.2 33) o (μ.1 63) (μ.2 65) m w)
    (e : eqN w v2) (hv : nv 34 μ3 = v2) (F2 : FM v2 (μ.1 66)) (t : (∀ k b, k < 34 ∨ 46 < k → (k ≠ 28 ∨ b ≠ 0) → (k ≠ 20 ∨ b ≠ 2) → μ3.1 k b = μ.1 k b) ∧ gi μ3 28 0 = nI m ∧ gi μ3 20 2 = μ.1 32 ((o + m) % 8) ∧ (∀ k b, k ≠ 22 → μ3.2 k b = μ.2 k b) ∧ ∀ p, p < 16 → μ3.2 22 p = μ.2 33 (16 * ((o + m) % 8) + p)) (h : f_X7_undo μ = some (nI m, μ3)) : simOK μ (f_case_61 μ) := by
  obtain ⟨t1, t2, t3, t4, t5⟩ := t
  obtain ⟨ν, e1, h5, h61, h64, f1, f2⟩ := m_undo (μ := μ3) (m := m) ((t1 60 5 (by decide) (Or.inl (by decide)) (Or.inl (by decide))).trans h60) (by omega)
  have a61 : ∀ i, i < 703 → ν.1 61 i = μ.1 63 (703 * m + i) := fun i hi => by
    have q := h61 (0 + i)
    rw [cpI_in hi, Nat.zero_add] at q
    rw [q]; exact t1 63 _ (by decide) (Or.inl (by decide)) (Or.inl (by decide))
  have a64 : ∀ i, i < 16 → ν.2 64 i = μ.2 65 (16 * m + i) := fun i hi => by
    have q := h64 (0 + i)
    rw [cpL_in hi, Nat.zero_add] at q
    rw [q]; exact t4 65 _ (by decide)
  have g : ∀ k b, k ≠ 61 → k < 34 ∨ 46 < k → (k ≠ 28 ∨ b ≠ 0) → (k ≠ 20 ∨ b ≠ 2) → (k ≠ 60 ∨ (b ≠ 5 ∧ b ≠ 6)) → ν.1 k b = μ.1 k b := fun k b hk h1 h2 h3 h4 => (f1 k b hk h4).trans (t1 k b h1 h2 h3)
  have gf : ∀ k, k ≠ 61 → k < 34 ∨ 46 < k → k ≠ 28 → k ≠ 20 → k ≠ 60 → ν.1 k = μ.1 k := fun k a b c d e => funext fun i => g k i a b (Or.inl c) (Or.inl d) (Or.inl e)
  have gl2 : ∀ k, k ≠ 22 → k ≠ 64 → ν.2 k = μ.2 k := fun k a b => funext fun i => (f2 k i b).trans (t4 k i a)
  have nvν : nv 34 ν = v2 := by
    rw [← hv]
    exact nv_cg (fun k i h1 h2 => f1 k i (by omega) (by omega))
  refine caseW (fC := f_X7_undo μ) (fM := f_X8_undo) h e1 ?_
  unfold Rel RelF
  rw [nvν, gf 66 (by decide) (by decide) (by decide) (by decide) (by decide), gf 2 (by decide) (by decide) (by decide) (by decide) (by decide), gf 68 (by decide) (by decide) (by decide) (by decide) (by decide), gf 29 (by decide) (by decide) (by decide) (by decide) (by decide), gf 30 (by decide) (by decide) (by decide) (by decide) (by decide), gf 31 (by decide) (by decide) (by decide) (by decide) (by decide), gf 32 (by decide) (by decide) (by decide) (by decide) (by decide), gf 63 (by decide) (by decide) (by decide) (by decide) (by decide), gl2 33 (by decide) (by decide), gl2 65 (by decide) (by decide), g 0 7 (by decide) (by decide) (by decide) (by decide) (by decide), g 60 18 (by decide) (by decide) (by decide) (by decide) (by decide), g 1 1 (by decide) (by decide) (by decide) (by decide) (by decide), g 60 10 (by decide) (by decide) (by decide) (by decide) (by decide), g 28 1 (by decide) (by decide) (by decide) (by decide) (by decide)]
  have C2 := e.oCI Cw
  refine ⟨C2, (e.oDM Dw).cg C2 a61, F2, ?_, R.2.2.2.2.1, R.2.2.2.2.2.1, m, o, by omega, h8, (f1 28 0 (by decide) (by decide)).trans t2, h5, h28, RH.eq e Cw Rw⟩
  rw [show ν.1 20 2 = μ.1 32 ((o + m) % 8) from (f1 20 2 (by decide) (by decide)).trans t3]
  exact (e.oHM Hw).cg C2 (a61 702 (by decide)) (fun p hp => (f2 22 p (by decide)).trans (t5 p hp)) a64
theorem sim_61 (R : Rel μ) : simOK μ (f_case_61 μ) := by
  obtain ⟨n, o, h8, h8o, hn, hm, ho, hR⟩ := R.2.2.2.2.2.2
  have hn : gi μ 28 0 = nI n := hn
  have hm : gi μ 60 5 = nI n := hm
  have ho : gi μ 28 1 = nI o := ho
  cases n with
  | zero =>
    refine caseW (fC := f_X7_undo μ) (fM := f_X8_undo) (w := -1) (μc := μ) (ν := si μ 60 6 0) ?_ ?_ (R.fr (si60 0))
    · unfold f_X7_undo
      rw [if_pos (show gi μ 28 0 = 0 from hn)]
    · unfold f_X8_undo
      rw [if_pos (show gi (si μ 60 6 0) 60 5 = 0 from (gi_sij (by decide)).trans hm)]
  | succ m =>
    obtain ⟨w, Cw, hu, Dw, Hw, Rw⟩ := hR
    have hb := R.1.b
    have ct := c_take hn ho (by omega) h8o Hw.1
    have cu : ∀ μ3, f_X1_takeBack μ = some μ3 → gi μ3 28 0 = nI m → f_X7_undo μ = some (nI m, μ3) := fun μ3 h1 h2 => by
      unfold f_X7_undo
      rw [if_neg (show ¬ gi μ 28 0 = 0 from by rw [hn]; exact nI_ne0 (by omega) (by omega)), h1, Option.bind_some, h2]
    rcases hu with ⟨hk, i, hi, e1, e2⟩ | ⟨hk, k, s, x, h1, h2, h3, e1, e2⟩ | ⟨hk, k, c, h1, h2, e1, e3, e2⟩ | ⟨hk, a, e1, h1, e2⟩ | ⟨hk, i, hi, e1, e2⟩ | ⟨hk, i, hi, e1, e2⟩ | ⟨hk, e2⟩
    · have t := tk_f (μ := μ) (m := m) (q := (o + m) % 8) (K := 39) (i := i) (x := μ.1 31 ((o + m) % 8)) (by decide)
      refine undo_fin R (by omega) h8o ho hm Cw Dw Hw Rw e2 ((nv_si (j := 5) (by decide)).trans (by rw [tk_nv])) (FM_vs (by omega) R.2.2.1) t (cu _ ?_ t.2.1)
      rw [ct, hk, e1]
      unfold tkB
      rw [if_pos rfl, gck (by omega) (by decide), nI_clamp (by omega)]
    · have hc := (R.1.line h1).cnt
      have t := tk_f (μ := μ) (m := m) (q := (o + m) % 8) (K := 44) (i := 32 * k + 4 * s + x) (x := μ.1 31 ((o + m) % 8)) (by decide)
      refine undo_fin R (by omega) h8o ho hm Cw Dw Hw Rw e2 ((nv_si (j := 10) (by decide)).trans (by rw [tk_nv])) (FM_vs (by omega) R.2.2.1) t (cu _ ?_ t.2.1)
      rw [ct, hk, e1]
      unfold tkB
      rw [if_neg (by decide), if_pos rfl, gck (by omega) (by decide), nI_clamp (by omega)]
    · have t := tk_f (μ := μ) (m := m) (q := (o + m) % 8) (K := 43) (i := k) (x := nI c) (by decide)
      refine undo_fin R (by omega) h8o ho hm Cw Dw Hw Rw e2 ((nv_si (j := 9) (by decide)).trans (by rw [tk_nv])) (FM_vs (by omega) R.2.2.1) t (cu _ ?_ t.2.1)
      rw [ct, hk, e1, e3]
      unfold tkB
      rw [if_neg (by decide), if_neg (by decide), if_pos rfl, gck (by omega) (by decide), nI_clamp (by omega)]
    · have t := tk_f (μ := μ) (m := m) (q := (o + m) % 8) (K := 34) (i := 4) (x := nI a) (by decide)
      refine undo_fin R (by omega) h8o ho hm Cw Dw Hw Rw e2 ((nv_si (j := 0) (by decide)).trans (by rw [tk_nv])) (FM_vs (by omega) R.2.2.1) t (cu _ ?_ t.2.1)
      rw [ct, hk, e1]
      unfold tkB
      rw [if_neg (by decide), if_neg (by decide), if_neg (by decide), if_pos rfl]
    · have t := tk_f (μ := μ) (m := m) (q := (o + m) % 8) (K := 37) (i := i) (x := μ.1 31 ((o + m) % 8)) (by decide)
      refine undo_fin R (by omega) h8o ho hm Cw Dw Hw Rw e2 ((nv_si (j := 3) (by decide)).trans (by rw [tk_nv])) (FM_vs (by omega) R.2.2.1) t (cu _ ?_ t.2.1)
      rw [ct, hk, e1]
      unfold tkB
      rw [if_neg (by decide), if_neg (by decide), if_neg (by decide), if_neg (by decide), if_pos rfl, gck (by omega) (by decide), nI_clamp (by omega)]
    · have t := tk_f (μ := μ) (m := m) (q := (o + m) % 8) (K := 35) (i := i) (x := μ.1 31 ((o + m) % 8)) (by decide)
      refine undo_fin R (by omega) h8o ho hm Cw Dw Hw Rw e2 ((nv_si (j := 1) (by decide)).trans (by rw [tk_nv])) (FM_vs (by omega) R.2.2.1) t (cu _ ?_ t.2.1)
      rw [ct, hk, e1]
      unfold tkB
      rw [if_neg (by decide), if_neg (by decide), if_neg (by decide), if_neg (by decide), if_neg (by decide), if_pos rfl, gck (by omega) (by decide), nI_clamp (by omega)]
    · have ef : si (tkM μ m ((o + m) % 8)) 34 5 (μ.1 34 5) = tkM μ m ((o + m) % 8) := by
        refine Prod.ext (funext fun a => funext fun b => ?_) rfl
        show (if a = 34 ∧ b = 5 then μ.1 34 5 else (tkM μ m ((o + m) % 8)).1 a b) = _
        by_cases c : a = 34 ∧ b = 5
        · rw [if_pos c, c.1, c.2]; rfl
        · rw [if_neg c]
      have t := tk_f (μ := μ) (m := m) (q := (o + m) % 8) (K := 34) (i := 5) (x := μ.1 34 5) (by decide)
      rw [ef] at t
      refine undo_fin R (by omega) h8o ho hm Cw Dw Hw Rw e2 tk_nv R.2.2.1 t (cu _ ?_ t.2.1)
      rw [ct, hk]
      unfold tkB
      rw [if_neg (by decide), if_neg (by decide), if_neg (by decide), if_neg (by decide), if_neg (by decide), if_neg (by decide)]
end GU

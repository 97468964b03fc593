/-! the reader on the whole text; load -/
section LOD
variable {μ : gM}
variable {tt : Nat} {cl : Nat → Nat × Bool} {ho : Nat → Option Nat} {ff ss ll cc : Nat → Nat} {rr : Nat → Nat → Nat → Nat}
def xSet (tt : Nat) (R : List Nat) : List Nat := kSet ++ (32 :: (kTol ++ (32 :: (sdig tt ++ (59 :: R)))))
def xLt (neg : Bool) (R : List Nat) : List Nat := if neg = true then 32 :: (kDown ++ (59 :: R)) else 59 :: R
def xLev (l : Nat) (c : Nat × Bool) (R : List Nat) : List Nat := kLevel ++ (32 :: ([108, 97 + l] ++ (32 :: (sdig c.1 ++ xLt c.2 R))))
def xAll (tt : Nat) (cl : Nat → Nat × Bool) (ho : Nat → Option Nat) (ff ss ll cc : Nat → Nat) (rr : Nat → Nat → Nat → Nat) (P C : Nat) : List Nat := xSet tt (xLev 0 (cl 0) (xLev 1 (cl 1) (xPts ho (xLns ff ss ll cc rr C 0) P 0)))
def eTx (k i : Nat) : Prop := (47 ≤ k ∧ k < 60) ∨ (k = 1 ∧ i = 2)
theorem clr (μ : gM) : ∃ μ', f_X3b_clear μ = some μ' ∧ FX eTx μ μ' ∧ gi μ' 47 0 = 0 ∧ gi μ' 47 1 = 0 ∧ gi μ' 47 2 = 0 ∧ gi μ' 47 3 = 0 ∧ gi μ' 47 4 = 0 ∧ gi μ' 48 1 = 60 ∧ gi μ' 48 2 = 20 ∧ ∀ i, gi μ' 1 i = gi μ 1 i := by
  obtain ⟨μz, hμz⟩ : ∃ μz, μz = si (si (si (si (si μ 47 0 (0 : Int32)) 47 1 (0 : Int32)) 47 2 (0 : Int32)) 47 3 (0 : Int32)) 47 4 (0 : Int32) := ⟨_, rfl⟩
  have st : ∀ (i : Nat) (ν : gM), i < 3 → b_X3b_clear_27 (nI i) ν = some (.inl (nI (i + 1), si ν 48 i (sc 4 i))) := fun i ν hi => by
    unfold b_X3b_clear_27
    rw [if_neg (show ¬ (3 : Int32) ≤ nI i from nI_ge (b := 3) hi (by decide))]
    simp (disch := omega) only [gck, nI_clamp]
    rw [nI_1]
  refine ⟨si (si (si μz 48 0 (sc 4 0)) 48 1 (sc 4 1)) 48 2 (sc 4 2), ?_, ?_, ?_, ?_, ?_, ?_, ?_, ?_, ?_, fun i => ?_⟩
  · unfold f_X3b_clear
    rw [← hμz]
    have g : gloop (fun t => b_X3b_clear_27 t.1 t.2) gFuel ((0 : Int32), μz) = some (si (si (si μz 48 0 (sc 4 0)) 48 1 (sc 4 1)) 48 2 (sc 4 2)) := by
      rw [gl_s (s := ((0 : Int32), μz)) (by unfold gFuel; omega) (st 0 μz (by decide)), gl_s (by unfold gFuel; omega) (st 1 _ (by decide)), gl_s (by unfold gFuel; omega) (st 2 _ (by decide))]
      refine gl_e (by unfold gFuel; omega) ?_
      show b_X3b_clear_27 (nI 3) _ = _
      unfold b_X3b_clear_27
      rw [if_pos (by decide)]
    rw [g]; rfl
  · refine ⟨fun k i q r => ?_, by rw [hμz]; rfl⟩
    have hr : k < 47 ∨ 60 ≤ k := by unfold eTx at r; omega
    rw [gi_sik (by omega), gi_sik (by omega), gi_sik (by omega), hμz, gi_sik (by omega), gi_sik (by omega), gi_sik (by omega), gi_sik (by omega), gi_sik (by omega)]
  · rw [gi_sik (by decide), gi_sik (by decide), gi_sik (by decide), hμz]; rfl
  · rw [gi_sik (by decide), gi_sik (by decide), gi_sik (by decide), hμz]; rfl
  · rw [gi_sik (by decide), gi_sik (by decide), gi_sik (by decide), hμz]; rfl
  · rw [gi_sik (by decide), gi_sik (by decide), gi_sik (by decide), hμz]; rfl
  · rw [gi_sik (by decide), gi_sik (by decide), gi_sik (by decide), hμz]; rfl
  · rw [gi_sij (by decide), gi_sii]; decide +kernel
  · rw [gi_sii]; decide +kernel
  · rw [gi_sik (by decide), gi_sik (by decide), gi_sik (by decide), hμz, gi_sik (by decide), gi_sik (by decide), gi_sik (by decide), gi_sik (by decide), gi_sik (by decide)]
theorem rd_text {n P C : Nat} (hn : n ≤ 1200) (hc : 3 + P + C ≤ n) (hX : Sx (gi μ 2) n 0 (xAll tt cl ho ff ss ll cc rr P C)) (ht : tt ≤ 500) (hcl : ∀ l, (cl l).1 ≤ 200) (hP : P ≤ 16) (hho : ∀ p x, ho p = some x → x ≤ 9999999) (hC : C ≤ 20) (hcc : ∀ k, 1 ≤ cc k ∧ cc k ≤ 7) (hln : ∀ k, k < C → ff k < P ∧ ss k < P ∧ ff k ≠ ss k ∧ ll k < 2) (hrr : ∀ k s w, w < 4 → gdx w (rr k s w)) : ∃ μ', f_X4_readText (nI n) μ = some (nI (3 + P + C), μ') ∧ FX eTx μ μ' ∧ DF tt cl ho ff ss ll cc rr 2 P C μ' := by
  obtain ⟨μb, hμb⟩ : ∃ μb, μb = si (si (si μ 1 2 (nI n)) 1 4 (0 : Int32)) 1 9 (0 : Int32) := ⟨_, rfl⟩
  have Fb : FX eTx μ μb := by
    rw [hμb]
    exact (FX.s1 (Or.inl (Or.inr ⟨rfl, rfl⟩)) μ).tr ((FX.s1 (Or.inr (by omega)) _).tr (FX.s1 (Or.inr (by omega)) _))
  obtain ⟨μc, ec, Fc, c0, c1, c2, c3, c4, c5, c6, c7⟩ := clr μb
  have tx : gi μc 2 = gi μ 2 := funext (fun i => by rw [Fc.1 2 i (by omega) (by unfold eTx; omega), Fb.1 2 i (by omega) (by unfold eTx; omega)])
  have LP := tPts_L (ho := ho) (R := xLns ff ss ll cc rr C 0) (TS := tLns ff ss ll cc rr C 0) (tLns_L C 0) P 0
  obtain ⟨μ0, e0, F0, T0⟩ := advG (n := n) (e := 0) (μ := μc) (S := xAll tt cl ho ff ss ll cc rr P C) hn (by rw [c7, hμb, gi_sij (by decide), gi_sij (by decide), gi_sii]) (by rw [c7, hμb, gi_sij (by decide), gi_sii]; rfl) (by rw [tx]; exact hX) (Lx_w0 (w := kSet) (by decide) (by unfold lt1; decide) (hd_w (by decide)))
  obtain ⟨μ1, e1, T1, F1, v1⟩ := rd_set (R := xLev 0 (cl 0) (xLev 1 (cl 1) (xPts ho (xLns ff ss ll cc rr C 0) P 0))) T0 ht (by rw [F0.g 1 9 (by omega), c7, hμb, gi_sii])
  have q1 : ∀ k i, 47 ≤ k → ¬ eSet k i → gi μ1 k i = gi μc k i := fun k i h1 h2 => (F1.1 k i (by omega) h2).trans (F0.g k i (by omega))
  have D1 : DF tt cl ho ff ss ll cc rr 0 0 0 μ1 := by
    have ne : ∀ i, ¬ eSet 47 i := fun i w => by unfold eSet at w; omega
    refine ⟨⟨⟨(q1 _ _ (by decide) (ne 0)).trans c0, by decide, fun l hl => absurd hl (Nat.not_lt_zero l)⟩, (q1 _ _ (by decide) (ne 1)).trans c1, by decide, fun l hl => absurd hl (Nat.not_lt_zero l)⟩, ⟨(q1 _ _ (by decide) (ne 2)).trans c2, (q1 _ _ (by decide) (ne 3)).trans c3, (q1 _ _ (by decide) (ne 4)).trans c4⟩, ⟨v1, (q1 _ _ (by decide) (by unfold eSet; omega)).trans c5, (q1 _ _ (by decide) (by unfold eSet; omega)).trans c6⟩, fun l hl => absurd hl (Nat.not_lt_zero l), fun l hl => absurd hl (Nat.not_lt_zero l), fun l hl => absurd hl (Nat.not_lt_zero l)⟩
  obtain ⟨μ2, e2, F2, T2⟩ := adv T1 (Lx_w0 (w := kLevel) (by decide) (by unfold lt1; decide) (hd_w (by decide)))
  have D2 := D1.af F2
  obtain ⟨μ3, e3, T3, F3, w1, w2, w3⟩ := rd_level (a := 0) (b := 0) (l := 0) (neg := (cl 0).2) (T := xLt (cl 0).2 (xLev 1 (cl 1) (xPts ho (xLns ff ss ll cc rr C 0) P 0))) rfl T2 (hcl 0) D2.1 (by decide) (by decide)
  obtain ⟨μ4, e4, F4, T4⟩ := adv T3 (Lx_w0 (w := kLevel) (by decide) (by unfold lt1; decide) (hd_w (by decide)))
  have D4 := (D2.lv (by decide) F3 w1 w2 w3).af F4
  obtain ⟨μ5, e5, T5, F5, x1, x2, x3⟩ := rd_level (a := 1) (b := 0) (l := 1) (neg := (cl 1).2) (T := xLt (cl 1).2 (xPts ho (xLns ff ss ll cc rr C 0) P 0)) rfl T4 (hcl 1) D4.1 (by decide) (by decide)
  obtain ⟨μ6, e6, F6, T6⟩ := adv T5 LP
  have D6 := (D4.lv (by decide) F5 x1 x2 x3).af F6
  obtain ⟨μ7, g7, T7, F7, D7⟩ := rd_pts (N := n) (tLns_L C 0) hP hho (by omega) P 0 3 μ6 (gFuel - 1 - 1 - 1) (by omega) (by omega) (by unfold gFuel; omega) T6 D6
  obtain ⟨μ8, g8, T8, F8, D8⟩ := rd_lns (N := n) hC hcc hln hrr (by omega) C 0 (3 + P) μ7 (gFuel - 1 - 1 - 1 - P) (by omega) (by omega) (by unfold gFuel; omega) T7 D7
  have mo : ∀ {E : Nat → Nat → Prop} {a b : gM}, FX E a b → (∀ k i, E k i → 47 ≤ k ∧ k < 60) → FX eTx a b := fun h hE => h.mo (fun k i w => Or.inl (hE k i w))
  refine ⟨μ8, ?_, Fb.tr (Fc.tr ((AF.fx F0).tr ((mo F1 (fun k i w => by unfold eSet at w; omega)).tr ((AF.fx F2).tr ((mo F3 (fun k i w => by unfold eLev at w; omega)).tr ((AF.fx F4).tr ((mo F5 (fun k i w => by unfold eLev at w; omega)).tr ((AF.fx F6).tr ((mo F7 (fun k i w => w)).tr (mo F8 (fun k i w => w))))))))))), D8⟩
  unfold f_X4_readText
  rw [← hμb, ec, Option.bind_some, e0, Option.bind_some]
  have G : gloop (fun (t : Int32 × gM) => b_X4_readText_25 (nI n) t.1 t.2) gFuel ((0 : Int32), μ0) = some (.inr (nI (3 + P + C), μ8)) := by
    rw [gl_s (s := ((0 : Int32), μ0)) (by unfold gFuel; omega) (b25 (i := 0) T0 e1 T1 e2 (by omega) (by omega)), gl_s (by unfold gFuel; omega) (b25 (i := 1) T2 e3 T3 e4 (by omega) (by omega)), gl_s (by unfold gFuel; omega) (b25 (i := 2) T4 e5 T5 e6 (by omega) (by omega)), g7, g8]
    refine gl_e (by unfold gFuel; omega) ?_
    show b_X4_readText_25 (nI n) (nI (3 + P + C)) μ8 = _
    unfold b_X4_readText_25
    rw [if_neg (nI_nlt (by omega) (by omega)), T8.kd, if_pos (show nI ten.1 = 0 from rfl)]
  rw [G]; rfl
theorem rd_load {n P C : Nat} (hn : n ≤ 1200) (h11 : ∃ m, gi μ 1 1 = nI m ∧ n ≤ m ∧ m < 2 ^ 31) (hc : 3 + P + C ≤ n) (hX : Sx (gi μ 2) n 0 (xAll tt cl ho ff ss ll cc rr P C)) (ht : tt ≤ 500) (hcl : ∀ l, (cl l).1 ≤ 200) (hP : P ≤ 16) (hho : ∀ p x, ho p = some x → x ≤ 9999999) (hC : C ≤ 20) (hcc : ∀ k, 1 ≤ cc k ∧ cc k ≤ 7) (hln : ∀ k, k < C → ff k < P ∧ ss k < P ∧ ff k ≠ ss k ∧ ll k < 2) (hrr : ∀ k s w, w < 4 → gdx w (rr k s w)) : ∃ μ' ρ, f_X7_load (nI n) μ = some (nI (3 + P + C), μ') ∧ DF tt cl ho ff ss ll cc rr 2 P C ρ ∧ (∀ j i, j < 13 → gi μ' (34 + j) i = gi ρ (47 + j) i) ∧ gi μ' 20 2 = 0 ∧ gi μ' 28 0 = 0 ∧ gi μ' 28 1 = gi μ 28 1 := by
  obtain ⟨ρ, e, F, D⟩ := rd_text hn hc hX ht hcl hP hho hC hcc hln hrr
  obtain ⟨m, hm, hnm, hm2⟩ := h11
  obtain ⟨ρ2, hρ2⟩ : ∃ ρ2, ρ2 = si (si ρ 1 1 (0 : Int32)) 0 7 (-1 : Int32) := ⟨_, rfl⟩
  refine ⟨si (si (msw ρ2) 20 2 (0 : Int32)) 28 0 (0 : Int32), ρ, ?_, D, fun j i hj => ?_, ?_, gi_sii, ?_⟩
  · unfold f_X7_load
    rw [if_neg (nI_pos (by omega)), hm, if_pos (nI_le hnm hm2), e, Option.bind_some, if_pos (nI_pos' (by omega)), ← hρ2]
  · rw [gi_sik (by omega), gi_sik (by omega)]
    show ρ2.1 (sw (34 + j)) i = _
    have es : sw (34 + j) = 47 + j := by unfold sw; rw [if_pos (by omega)]; omega
    rw [es, hρ2]
    show gi (si (si ρ 1 1 (0 : Int32)) 0 7 (-1 : Int32)) (47 + j) i = _
    rw [gi_sik (by omega), gi_sik (by omega)]
  · rw [gi_sik (by decide), gi_sii]
  · rw [gi_sij (by decide), gi_sik (by decide)]
    show ρ2.1 (sw 28) 1 = _
    rw [show sw 28 = 28 from rfl, hρ2]
    show gi (si (si ρ 1 1 (0 : Int32)) 0 7 (-1 : Int32)) 28 1 = _
    rw [gi_sik (by decide), gi_sik (by decide), F.1 28 1 (by omega) (by unfold eTx; omega)]
end LOD

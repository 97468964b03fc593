/-! the statement line, whole -/
section LIN
theorem AF.g {μ ν : gM} (h : AF μ ν) (k i : Nat) (c : k ≠ 1 ∨ i < 3 ∨ 7 < i) : gi ν k i = gi μ k i := h.1 k i c
variable {n : Nat} {μ : gM} {r : Nat → Nat → Nat} {R : List Nat}
theorem kn_P {a b p : Nat} {S : List Nat} (h : CTk n μ (twd [112, 97 + p]) S) (H : NMS a b μ) (hp : p < b) : f_X4_isKnownPoint μ = some (true, μ) ∧ f_X3b_findPoint (gi μ 1 6) μ = some (nI p) := by
  obtain ⟨h1, h2⟩ := nm_at h
  have f := fl_P H hp
  have hb := H.2.2.1
  rw [h2, show nmc 112 (97 + p) = nmP p from rfl]
  refine ⟨?_, f⟩
  unfold f_X4_isKnownPoint
  rw [h1, Option.bind_some, if_neg kT1, h2, show nmc 112 (97 + p) = nmP p from rfl, f, Option.bind_some, if_neg (m1_ne (by omega))]
theorem kn_L {a b l : Nat} {S : List Nat} (h : CTk n μ (twd [108, 97 + l]) S) (H : NMS a b μ) (hl : l < a) : f_X4_isKnownLevel μ = some (true, μ) ∧ f_X3b_findLevel (gi μ 1 6) μ = some (nI l) := by
  obtain ⟨h1, h2⟩ := nm_at h
  have f := fl_L H hl
  have hb := H.1.2.1
  rw [h2, show nmc 108 (97 + l) = nmL l from rfl]
  refine ⟨?_, f⟩
  unfold f_X4_isKnownLevel
  rw [h1, Option.bind_some, if_neg kT1, h2, show nmc 108 (97 + l) = nmL l from rfl, f, Option.bind_some, if_neg (m1_ne (by omega))]
def eLn (k K i : Nat) : Prop := eR k 0 K i ∨ (K = 47 ∧ (i = 2 ∨ i = 4)) ∨ ((K = 53 ∨ K = 54 ∨ K = 55) ∧ i = k)
theorem act_or {k : Nat} (hk : k < 20) : nI (2 ^ k - 1) ||| ((1 : Int32) <<< (nI k &&& 31)) = nI (2 ^ (k + 1) - 1) := by
  have : ∀ k, k < 20 → nI (2 ^ k - 1) ||| ((1 : Int32) <<< (nI k &&& 31)) = nI (2 ^ (k + 1) - 1) := by decide +kernel
  exact this k hk
theorem NMS.f2 {a b : Nat} {μ' : gM} (H : NMS a b μ) (h : ∀ k i, (k = 47 ∧ i < 2) ∨ k = 49 ∨ k = 51 → gi μ' k i = gi μ k i) : NMS a b μ' := by
  obtain ⟨⟨h1, h2, h3⟩, h4, h5, h6⟩ := H
  exact ⟨⟨(h _ _ (Or.inl ⟨rfl, by decide⟩)).trans h1, h2, fun l hl => (h _ _ (Or.inr (Or.inl rfl))).trans (h3 l hl)⟩, (h _ _ (Or.inl ⟨rfl, by decide⟩)).trans h4, h5, fun p hp => (h _ _ (Or.inr (Or.inr rfl))).trans (h6 p hp)⟩
theorem rd_line {a b k f s l c : Nat} (h : CTk n μ (twd kLine) (32 :: ([112, 97 + f] ++ (32 :: ([112, 97 + s] ++ (32 :: ([108, 97 + l] ++ Qn r R c 0))))))) (H : NMS a b μ) (hf : f < b) (hs : s < b) (hfs : f ≠ s) (hl : l < a) (hc : 1 ≤ c ∧ c ≤ 7) (hk : k < 20) (h2 : gi μ 47 2 = nI k) (h4 : gi μ 47 4 = nI (2 ^ k - 1)) (hr : ∀ s, s < 8 → ∀ w, w < 4 → gdx w (r s w)) : ∃ μ', f_X4_readStatement μ = some (true, μ') ∧ CTk n μ' tsm R ∧ FX (eLn k) μ μ' ∧ gi μ' 47 2 = nI (k + 1) ∧ gi μ' 47 4 = nI (2 ^ (k + 1) - 1) ∧ gi μ' 53 k = nI f ∧ gi μ' 54 k = nI s ∧ gi μ' 55 k = nI l ∧ gi μ' 56 k = nI c ∧ ∀ s', s' < c → ∀ w, w < 4 → gi μ' 57 (32 * k + 4 * s' + w) = nI (r s' w) := by
  have hb := H.2.2.1
  have ha := H.1.2.1
  obtain ⟨μ1, e1, F1, T1⟩ := adv h (Lx_w (w := [112, 97 + f]) (by simp) (lt_nm (by omega) (by omega)) (hd_w (by decide)))
  have H1 : NMS a b μ1 := H.fx (fun k i hk => F1.g k i (by omega))
  obtain ⟨n1, n2⟩ := kn_P T1 H1 hf
  obtain ⟨ρ1, hρ1⟩ : ∃ ρ1, ρ1 = si μ1 53 k (nI f) := ⟨_, rfl⟩
  have R1 : CTk n ρ1 (twd [112, 97 + f]) (32 :: ([112, 97 + s] ++ (32 :: ([108, 97 + l] ++ Qn r R c 0)))) := by rw [hρ1]; exact T1.sI (by omega)
  obtain ⟨μ2, e2, F2, T2⟩ := adv R1 (Lx_w (w := [112, 97 + s]) (by simp) (lt_nm (by omega) (by omega)) (hd_w (by decide)))
  have H2 : NMS a b μ2 := H1.f2 (fun k' i hk' => (F2.g k' i (by omega)).trans (by rw [hρ1, gi_sik (by omega)]))
  obtain ⟨n3, n4⟩ := kn_P T2 H2 hs
  obtain ⟨ρ2, hρ2⟩ : ∃ ρ2, ρ2 = si μ2 54 k (nI s) := ⟨_, rfl⟩
  have R2 : CTk n ρ2 (twd [112, 97 + s]) (32 :: ([108, 97 + l] ++ Qn r R c 0)) := by rw [hρ2]; exact T2.sI (by omega)
  have g53 : gi ρ2 53 k = nI f := by rw [hρ2, gi_sik (by decide), F2.g 53 k (by omega), hρ1, gi_sii]
  have g54 : gi ρ2 54 k = nI s := by rw [hρ2, gi_sii]
  obtain ⟨μ3, e3, F3, T3⟩ := adv R2 (Lx_w (w := [108, 97 + l]) (by simp) (lt_nm (by omega) (by omega)) (Qn_d c 0).2)
  have H3 : NMS a b μ3 := H2.f2 (fun k' i hk' => (F3.g k' i (by omega)).trans (by rw [hρ2, gi_sik (by omega)]))
  obtain ⟨n5, n6⟩ := kn_L T3 H3 hl
  obtain ⟨ρ3, hρ3⟩ : ∃ ρ3, ρ3 = si μ3 55 k (nI l) := ⟨_, rfl⟩
  have R3 : CTk n ρ3 (twd [108, 97 + l]) (Qn r R c 0) := by rw [hρ3]; exact T3.sI (by omega)
  obtain ⟨μ4, e4, F4, T4⟩ := adv_Q R3 (fun _ => hr 0 (by decide) 0 (by decide))
  have b2 : gi μ4 47 2 = nI k := by
    rw [F4.g 47 2 (by omega), hρ3, gi_sik (by decide), F3.g 47 2 (by omega), hρ2, gi_sik (by decide), F2.g 47 2 (by omega), hρ1, gi_sik (by decide), F1.g 47 2 (by omega), h2]
  have b4 : gi μ4 47 4 = nI (2 ^ k - 1) := by
    rw [F4.g 47 4 (by omega), hρ3, gi_sik (by decide), F3.g 47 4 (by omega), hρ2, gi_sik (by decide), F2.g 47 4 (by omega), hρ1, gi_sik (by decide), F1.g 47 4 (by omega), h4]
  obtain ⟨μ5, hμ5⟩ : ∃ μ5, μ5 = si (si μ4 47 2 (nI (k + 1))) 47 4 (nI (2 ^ (k + 1) - 1)) := ⟨_, rfl⟩
  have T5 : TQn n r R c 0 μ5 := by
    rw [hμ5]
    obtain ⟨c', rfl⟩ : ∃ c', c = c' + 1 := ⟨c - 1, by omega⟩
    exact CTk.sI (T := tnb (r 0 0)) (CTk.sI (T := tnb (r 0 0)) T4 (by omega)) (by omega)
  obtain ⟨μ6, e6, T6, F6, v6, c6⟩ := rd_sets hk hr c 0 μ5 gFuel (by omega) (by omega) (by unfold gFuel; omega) T5
  have s3 : ∀ (K : Nat) (x : Int32) (ν : gM), (K = 53 ∨ K = 54 ∨ K = 55) → FX (eLn k) ν (si ν K k x) := fun K x ν hK => FX.s1 (Or.inl (Or.inr (Or.inr ⟨hK, rfl⟩))) ν
  have s47 : ∀ (i : Nat) (x : Int32) (ν : gM), (i = 2 ∨ i = 4) → FX (eLn k) ν (si ν 47 i x) := fun i x ν hi => FX.s1 (Or.inl (Or.inr (Or.inl ⟨rfl, hi⟩))) ν
  have FF : FX (eLn k) μ μ6 := by
    refine (AF.fx F1).tr (FX.tr (b := ρ1) (by rw [hρ1]; exact s3 _ _ _ (by omega)) ((AF.fx F2).tr (FX.tr (b := ρ2) (by rw [hρ2]; exact s3 _ _ _ (by omega)) ((AF.fx F3).tr (FX.tr (b := ρ3) (by rw [hρ3]; exact s3 _ _ _ (by omega)) ((AF.fx F4).tr (FX.tr (b := μ5) ?_ (F6.mo (fun K i w => Or.inl w)))))))))
    rw [hμ5]
    exact (s47 _ _ _ (by omega)).tr (s47 _ _ _ (by omega))
  have o6 : ∀ K i, 47 ≤ K → K ≠ 57 → K ≠ 56 → gi μ6 K i = gi μ5 K i := fun K i h1 h2 h3 => F6.1 K i (by omega) (fun z => by rcases z with z | z <;> omega)
  refine ⟨μ6, ?_, T6, FF, ?_, ?_, ?_, ?_, ?_, ?_, fun s' hs' w hw => v6 s' (Nat.zero_le _) (by omega) w hw⟩
  · unfold f_X4_readStatement
    rw [w5 h, Option.bind_some, show decide (kLine = kLevel) = false from rfl, if_pos kF0, w7 h, Option.bind_some, show decide (kLine = kPoint) = false from rfl, if_pos kF0, w8 h, Option.bind_some, show decide (kLine = kLine) = true from rfl, if_neg kT1]
    have hL : f_X4_readLine μ = some (true, μ6) := by
      unfold f_X4_readLine
      rw [h2, if_pos (show nI k < (20 : Int32) from nI_lt (b := 20) hk (by decide))]
      simp (disch := omega) only [gck, nI_clamp]
      rw [e1, Option.bind_some, n1, Option.bind_some, if_neg kT1, n2, Option.bind_some, ← hρ1, e2, Option.bind_some, n3, Option.bind_some, if_neg kT1, n4, Option.bind_some, ← hρ2, g54, g53, if_neg (fun w => hfs ((nI_eq (by omega) (by omega)).mp w).symm), e3, Option.bind_some, n5, Option.bind_some, if_neg kT1, n6, Option.bind_some, ← hρ3, e4, Option.bind_some, b2, nI_1, show gi (si μ4 47 2 (nI (k + 1))) 47 4 = nI (2 ^ k - 1) from (gi_sij (by decide)).trans b4, act_or hk, ← hμ5]
      rw [show gloop (fun (t : Int32 × gM) => b_X4_readLine_152 (nI k) t.1 t.2) gFuel ((0 : Int32), μ5) = _ from e6]
      rfl
    rw [hL]; rfl
  · rw [o6 _ _ (by decide) (by decide) (by decide), hμ5, gi_sij (by decide), gi_sii]
  · rw [o6 _ _ (by decide) (by decide) (by decide), hμ5, gi_sii]
  · rw [o6 _ _ (by decide) (by decide) (by decide), hμ5, gi_sik (by decide), gi_sik (by decide), F4.g 53 k (by omega), hρ3, gi_sik (by decide), F3.g 53 k (by omega), g53]
  · rw [o6 _ _ (by decide) (by decide) (by decide), hμ5, gi_sik (by decide), gi_sik (by decide), F4.g 54 k (by omega), hρ3, gi_sik (by decide), F3.g 54 k (by omega), g54]
  · rw [o6 _ _ (by decide) (by decide) (by decide), hμ5, gi_sik (by decide), gi_sik (by decide), F4.g 55 k (by omega), hρ3, gi_sii]
  · rw [c6, if_neg (by omega), Nat.zero_add]
end LIN

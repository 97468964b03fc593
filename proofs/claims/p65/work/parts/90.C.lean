/-! the statements set, level and point -/
section STM
variable {n : Nat} {μ : gM}
def FX (E : Nat → Nat → Prop) (μ μ' : gM) : Prop := (∀ k i, (k ≠ 1 ∨ i < 3 ∨ 9 < i) → ¬ E k i → gi μ' k i = gi μ k i) ∧ μ'.2 = μ.2
theorem FX.rf (E : Nat → Nat → Prop) (μ : gM) : FX E μ μ := ⟨fun _ _ _ _ => rfl, rfl⟩
theorem FX.tr {E : Nat → Nat → Prop} {a b c : gM} (h : FX E a b) (g : FX E b c) : FX E a c := ⟨fun k i q r => (g.1 k i q r).trans (h.1 k i q r), g.2.trans h.2⟩
theorem AF.fx {E : Nat → Nat → Prop} {a b : gM} (h : AF a b) : FX E a b := ⟨fun k i q _ => h.1 k i (by omega), h.2⟩
theorem FX.s1 {E : Nat → Nat → Prop} {k i : Nat} {x : Int32} (h : E k i ∨ (k = 1 ∧ 3 ≤ i ∧ i ≤ 9)) (a : gM) : FX E a (si a k i x) := ⟨fun K I q r => by
  refine if_neg (fun w => ?_)
  rw [w.1, w.2] at q r
  rcases h with h | h
  · exact r h
  · omega, rfl⟩
theorem hd_w {x : Nat} {S : List Nat} (h : x < 97) : hdN lt1 (x :: S) := Or.inr ⟨by show ¬ lt1 x; unfold lt1; omega, by show x < 256; omega⟩
theorem hd_d {x : Nat} {S : List Nat} (h : x < 48 ∨ (57 < x ∧ x < 256)) : hdN dg1 (x :: S) := Or.inr ⟨by show ¬ dg1 x; unfold dg1; omega, by show x < 256; omega⟩
theorem Lx_w {w S : List Nat} (h1 : w ≠ []) (h2 : ∀ x, x ∈ w → lt1 x) (h3 : hdN lt1 S) : Lx (32 :: (w ++ S)) (twd w) S := Or.inl ⟨[32], w, rfl, rfl, fun x hx => List.mem_singleton.mp hx, h1, h2, h3⟩
theorem Lx_w0 {w S : List Nat} (h1 : w ≠ []) (h2 : ∀ x, x ∈ w → lt1 x) (h3 : hdN lt1 S) : Lx (w ++ S) (twd w) S := Or.inl ⟨[], w, rfl, rfl, (fun x hx => by cases hx), h1, h2, h3⟩
theorem Lx_n {x : Nat} {S : List Nat} (h1 : x ≤ 9999999) (h3 : hdN dg1 S) : Lx (32 :: (sdig x ++ S)) (tnb x) S := Or.inr (Or.inl ⟨[32], x, rfl, rfl, fun x hx => List.mem_singleton.mp hx, h1, h3⟩)
theorem Lx_s {S : List Nat} : Lx (59 :: S) tsm S := Or.inr (Or.inr (Or.inl ⟨rfl, rfl⟩))
theorem lt_nm {c d : Nat} (hc : 97 ≤ c ∧ c ≤ 122) (hd : 97 ≤ d ∧ d ≤ 122) : ∀ x, x ∈ [c, d] → lt1 x := fun x hx => by
  rcases List.mem_cons.mp hx with h | h
  · rw [h]; exact hc
  · rw [List.mem_singleton.mp h]; exact hd
theorem kF0 : b2i false = 0 := rfl
theorem kT1 : ¬ b2i true = 0 := by decide
def eSet (k i : Nat) : Prop := k = 48 ∧ i = 0
theorem rd_set {x : Nat} {R : List Nat} (h : CTk n μ (twd kSet) (32 :: (kTol ++ (32 :: (sdig x ++ (59 :: R)))))) (hx : x ≤ 500) (h9 : gi μ 1 9 = 0) : ∃ μ', f_X4_readStatement μ = some (true, μ') ∧ CTk n μ' tsm R ∧ FX eSet μ μ' ∧ gi μ' 48 0 = nI x := by
  obtain ⟨μ1, e1, F1, T1⟩ := adv h (Lx_w (w := kTol) (by decide) (by unfold lt1; decide) (hd_w (by decide)))
  have g9 : gi μ1 1 9 = 0 := (F1.1 1 9 (by omega)).trans h9
  obtain ⟨μ2, e2, F2, T2⟩ := adv (T1.sI (k := 1) (i := 9) (x := gi μ1 1 9 ||| ((1 : Int32) <<< ((0 : Int32) &&& 31))) (by omega)) (Lx_n (x := x) (by omega) (hd_d (by omega)))
  obtain ⟨i1, i2⟩ := int_in (a := 0) (b := 500) T2 rfl (Nat.zero_le _) hx (by decide)
  obtain ⟨μ3, e3, F3, T3⟩ := adv (T2.sI (k := 48) (i := 0) (x := nI x) (by omega)) (Lx_s)
  refine ⟨μ3, ?_, T3, (AF.fx F1).tr ((FX.s1 (Or.inr (by omega)) μ1).tr ((AF.fx F2).tr ((FX.s1 (Or.inl ⟨rfl, rfl⟩) μ2).tr (AF.fx F3)))), (F3.1 48 0 (by omega)).trans gi_sii⟩
  unfold f_X4_readStatement
  rw [w5 h, Option.bind_some, show decide (kSet = kLevel) = false from rfl, if_pos kF0, w7 h, Option.bind_some, show decide (kSet = kPoint) = false from rfl, if_pos kF0, w8 h, Option.bind_some, show decide (kSet = kLine) = false from rfl, if_pos kF0, w9 h, Option.bind_some, show decide (kSet = kTest) = false from rfl, if_pos kF0, w10 h, Option.bind_some, show decide (kSet = kSet) = true from rfl, if_neg kT1]
  unfold f_X4_readSetting
  rw [e1, Option.bind_some, w11 T1, Option.bind_some, show decide (kTol = kTol) = true from rfl, if_neg kT1]
  unfold j_X4_readSetting_48
  rw [if_neg (by decide), if_neg (by rw [g9]; decide), e2, Option.bind_some, gckb (by decide), gckb (by decide)]
  rw [show sc 2 (0 : Int32).toNatClampNeg = nI 0 from by decide +kernel, show sc 3 (0 : Int32).toNatClampNeg = nI 500 from by decide +kernel, i1, Option.bind_some, if_neg kT1, gckb (by decide), i2]
  rw [show (0 : Int32).toNatClampNeg = 0 from rfl, e3, Option.bind_some, Option.bind_some]
theorem new_nm {a b c d : Nat} {S : List Nat} (h : CTk n μ (twd [c, d]) S) (H : NMS a b μ) (hc : 97 ≤ c ∧ c ≤ 122) (hd : 97 ≤ d ∧ d ≤ 122) (hn : (c = 108 ∧ a ≤ d - 97) ∨ (c = 112 ∧ b ≤ d - 97)) : f_X4_isNewName μ = some (true, μ) ∧ gi μ 1 6 = nmc c d := by
  obtain ⟨h1, h2⟩ := nm_at h
  obtain ⟨f1, f2⟩ := fl_no H hc hd hn
  refine ⟨?_, h2⟩
  unfold f_X4_isNewName
  rw [h1, Option.bind_some, if_neg kT1, h2, f1, Option.bind_some, if_pos rfl, f2, Option.bind_some, if_pos rfl]
theorem NMS.fx {a b : Nat} {μ' : gM} (H : NMS a b μ) (h : ∀ k i, 47 ≤ k → gi μ' k i = gi μ k i) : NMS a b μ' := by
  obtain ⟨⟨h1, h2, h3⟩, h4, h5, h6⟩ := H
  exact ⟨⟨(h _ _ (by decide)).trans h1, h2, fun l hl => (h _ _ (by decide)).trans (h3 l hl)⟩, (h _ _ (by decide)).trans h4, h5, fun p hp => (h _ _ (by decide)).trans (h6 p hp)⟩
def eLev (a k i : Nat) : Prop := (k = 47 ∧ i = 0) ∨ (k = 49 ∧ i = a) ∨ (k = 50 ∧ i = a)
theorem j77 {a : Nat} (ha : a < 3) {nm c : Int32} {S : List Nat} (T : CTk n μ tsm S) (h0 : gi μ 47 0 = nI a) : ∃ μ', j_X4_readLevel_77 nm c μ = some (true, μ') ∧ CTk n μ' tsm S ∧ FX (eLev a) μ μ' ∧ gi μ' 47 0 = nI (a + 1) ∧ gi μ' 49 a = nm ∧ gi μ' 50 a = c := by
  refine ⟨si (si (si μ 49 a nm) 50 a c) 47 0 (nI (a + 1)), ?_, ((T.sI (by omega)).sI (by omega)).sI (by omega), (FX.s1 (Or.inl (Or.inr (Or.inl ⟨rfl, rfl⟩))) _).tr ((FX.s1 (Or.inl (Or.inr (Or.inr ⟨rfl, rfl⟩))) _).tr (FX.s1 (Or.inl (Or.inl ⟨rfl, rfl⟩)) _)), gi_sii, ?_, ?_⟩
  · unfold j_X4_readLevel_77
    rw [h0]
    simp (disch := omega) only [gck, nI_clamp]
    rw [show gi (si μ 49 a nm) 47 0 = nI a from (gi_sik (by decide)).trans h0]
    simp (disch := omega) only [gck, nI_clamp]
    rw [show gi (si (si μ 49 a nm) 50 a c) 47 0 = nI a from (gi_sik (by decide)).trans ((gi_sik (by decide)).trans h0), nI_1]
  · rw [gi_sik (by decide), gi_sik (by decide), gi_sii]
  · rw [gi_sik (by decide), gi_sii]
theorem rd_level {a b l x : Nat} {R T : List Nat} {neg : Bool} (hT : T = if neg = true then 32 :: (kDown ++ (59 :: R)) else 59 :: R) (h : CTk n μ (twd kLevel) (32 :: ([108, 97 + l] ++ (32 :: (sdig x ++ T))))) (hx : x ≤ 200) (H : NMS a b μ) (ha : a < 3) (hl : l < 3 ∧ a ≤ l) : ∃ μ', f_X4_readStatement μ = some (true, μ') ∧ CTk n μ' tsm R ∧ FX (eLev a) μ μ' ∧ gi μ' 47 0 = nI (a + 1) ∧ gi μ' 49 a = nmL l ∧ gi μ' 50 a = if neg = true then - nI x else nI x := by
  obtain ⟨μ1, e1, F1, T1⟩ := adv h (Lx_w (w := [108, 97 + l]) (by simp) (lt_nm (by omega) (by omega)) (hd_w (by decide)))
  have H1 : NMS a b μ1 := H.fx (fun k i hk => F1.1 k i (by omega))
  obtain ⟨n1, n2⟩ := new_nm T1 H1 (by omega) (by omega) (by omega)
  have hdT : hdN dg1 T := by
    rw [hT]
    cases neg
    · exact hd_d (by omega)
    · exact hd_d (by omega)
  obtain ⟨μ2, e2, F2, T2⟩ := adv T1 (Lx_n (x := x) (by omega) hdT)
  obtain ⟨i1, i2⟩ := int_in (a := 0) (b := 200) T2 rfl (Nat.zero_le _) hx (by decide)
  have z : ∀ μ', FX (eLev a) μ2 μ' → FX (eLev a) μ μ' := fun μ' w => (AF.fx F1).tr ((AF.fx F2).tr w)
  unfold f_X4_readStatement
  rw [w5 h, Option.bind_some, show decide (kLevel = kLevel) = true from rfl, if_neg kT1]
  unfold f_X4_readLevel
  rw [H.1.1, if_pos (show nI a < (3 : Int32) from nI_lt (b := 3) ha (by decide)), e1, Option.bind_some, n1, Option.bind_some, if_neg kT1, e2, Option.bind_some, show f_X4_isIntegerIn 0 200 μ2 = _ from i1, Option.bind_some, if_neg kT1, n2, i2]
  have h0 : gi μ2 47 0 = nI a := (F2.1 47 0 (by omega)).trans H1.1.1
  cases neg with
  | false =>
    have hT : T = 59 :: R := hT
    rw [hT] at T2
    obtain ⟨μ3, e3, F3, T3⟩ := adv T2 Lx_s
    obtain ⟨μ4, q1, q2, q3, q4, q5, q6⟩ := j77 (nm := nmL l) (c := nI x) ha T3 ((F3.1 47 0 (by omega)).trans h0)
    refine ⟨μ4, ?_, q2, z _ ((AF.fx F3).tr q3), q4, q5, q6⟩
    rw [e3, Option.bind_some, w6N T3 (by decide), Option.bind_some, if_pos kF0]
    show Option.bind (j_X4_readLevel_77 (nmL l) (nI x) μ3) _ = _
    rw [q1]; rfl
  | true =>
    have hT : T = 32 :: (kDown ++ (59 :: R)) := hT
    rw [hT] at T2
    obtain ⟨μ3, e3, F3, T3⟩ := adv T2 (Lx_w (w := kDown) (by decide) (by unfold lt1; decide) (hd_w (by decide)))
    obtain ⟨μ3', e3', F3', T3'⟩ := adv T3 Lx_s
    obtain ⟨μ4, q1, q2, q3, q4, q5, q6⟩ := j77 (nm := nmL l) (c := - nI x) ha T3' ((F3'.1 47 0 (by omega)).trans ((F3.1 47 0 (by omega)).trans h0))
    refine ⟨μ4, ?_, q2, z _ ((AF.fx F3).tr ((AF.fx F3').tr q3)), q4, q5, q6⟩
    rw [e3, Option.bind_some, w6 T3, Option.bind_some, show decide (kDown = kDown) = true from rfl, if_neg kT1, e3', Option.bind_some]
    show Option.bind (j_X4_readLevel_77 (nmL l) (- nI x) μ3') _ = _
    rw [q1]; rfl
def ePt (b k i : Nat) : Prop := (k = 47 ∧ i = 1) ∨ (k = 51 ∧ i = b) ∨ (k = 52 ∧ i = b)
theorem j70 {b : Nat} (hb : b < 16) {nm c : Int32} {S : List Nat} (T : CTk n μ tsm S) (h0 : gi μ 47 1 = nI b) : ∃ μ', j_X4_readPoint_70 nm c μ = some (true, μ') ∧ CTk n μ' tsm S ∧ FX (ePt b) μ μ' ∧ gi μ' 47 1 = nI (b + 1) ∧ gi μ' 51 b = nm ∧ gi μ' 52 b = c := by
  refine ⟨si (si (si μ 51 b nm) 52 b c) 47 1 (nI (b + 1)), ?_, ((T.sI (by omega)).sI (by omega)).sI (by omega), (FX.s1 (Or.inl (Or.inr (Or.inl ⟨rfl, rfl⟩))) _).tr ((FX.s1 (Or.inl (Or.inr (Or.inr ⟨rfl, rfl⟩))) _).tr (FX.s1 (Or.inl (Or.inl ⟨rfl, rfl⟩)) _)), gi_sii, ?_, ?_⟩
  · unfold j_X4_readPoint_70
    rw [h0]
    simp (disch := omega) only [gck, nI_clamp]
    rw [show gi (si μ 51 b nm) 47 1 = nI b from (gi_sik (by decide)).trans h0]
    simp (disch := omega) only [gck, nI_clamp]
    rw [show gi (si (si μ 51 b nm) 52 b c) 47 1 = nI b from (gi_sik (by decide)).trans ((gi_sik (by decide)).trans h0), nI_1]
  · rw [gi_sik (by decide), gi_sik (by decide), gi_sii]
  · rw [gi_sik (by decide), gi_sii]
theorem rd_point {a b p : Nat} {R T : List Nat} {o : Option Nat} (hT : T = match o with | some x => 32 :: (sdig x ++ (59 :: R)) | none => 59 :: R) (h : CTk n μ (twd kPoint) (32 :: ([112, 97 + p] ++ T))) (hx : ∀ x, o = some x → x ≤ 9999999) (H : NMS a b μ) (hb : b < 16) (hp : p < 16 ∧ b ≤ p) : ∃ μ', f_X4_readStatement μ = some (true, μ') ∧ CTk n μ' tsm R ∧ FX (ePt b) μ μ' ∧ gi μ' 47 1 = nI (b + 1) ∧ gi μ' 51 b = nmP p ∧ gi μ' 52 b = oI o := by
  have hdT : hdN lt1 T := by
    rw [hT]
    cases o
    · exact hd_w (by decide)
    · exact hd_w (by decide)
  obtain ⟨μ1, e1, F1, T1⟩ := adv h (Lx_w (w := [112, 97 + p]) (by simp) (lt_nm (by omega) (by omega)) hdT)
  have H1 : NMS a b μ1 := H.fx (fun k i hk => F1.1 k i (by omega))
  obtain ⟨n1, n2⟩ := new_nm T1 H1 (by omega) (by omega) (by omega)
  unfold f_X4_readStatement
  rw [w5 h, Option.bind_some, show decide (kPoint = kLevel) = false from rfl, if_pos kF0, w7 h, Option.bind_some, show decide (kPoint = kPoint) = true from rfl, if_neg kT1]
  unfold f_X4_readPoint
  rw [H.2.1, if_pos (show nI b < (16 : Int32) from nI_lt (b := 16) hb (by decide)), e1, Option.bind_some, n1, Option.bind_some, if_neg kT1]
  have h0 : gi μ1 47 1 = nI b := H1.2.1
  cases o with
  | none =>
    have hT : T = 59 :: R := hT
    rw [hT] at T1
    obtain ⟨μ3, e3, F3, T3⟩ := adv T1 Lx_s
    obtain ⟨μ4, q1, q2, q3, q4, q5, q6⟩ := j70 (nm := nmP p) (c := -1) hb T3 ((F3.1 47 1 (by omega)).trans h0)
    refine ⟨μ4, ?_, q2, (AF.fx F1).tr ((AF.fx F3).tr q3), q4, q5, q6⟩
    rw [e3, Option.bind_some, T3.kd, if_neg (by decide), n2]
    show Option.bind (j_X4_readPoint_70 (nmP p) (-1) μ3) _ = _
    rw [q1]; rfl
  | some x =>
    have hT : T = 32 :: (sdig x ++ (59 :: R)) := hT
    rw [hT] at T1
    obtain ⟨μ2, e2, F2, T2⟩ := adv T1 (Lx_n (x := x) (hx x rfl) (hd_d (by omega)))
    obtain ⟨i1, i2⟩ := int_in (a := 0) (b := 9999999) T2 rfl (Nat.zero_le _) (hx x rfl) (by decide)
    obtain ⟨μ3, e3, F3, T3⟩ := adv T2 Lx_s
    obtain ⟨μ4, q1, q2, q3, q4, q5, q6⟩ := j70 (nm := nmP p) (c := nI x) hb T3 ((F3.1 47 1 (by omega)).trans ((F2.1 47 1 (by omega)).trans h0))
    refine ⟨μ4, ?_, q2, (AF.fx F1).tr ((AF.fx F2).tr ((AF.fx F3).tr q3)), q4, q5, q6⟩
    rw [e2, Option.bind_some, T2.kd, if_pos (show nI (tnb x).1 = 2 from rfl), show f_X4_isIntegerIn 0 9999999 μ2 = _ from i1, Option.bind_some, if_neg kT1, e3, Option.bind_some, n2, i2]
    show Option.bind (j_X4_readPoint_70 (nmP p) (nI x) μ3) _ = _
    rw [q1]; rfl
end STM

/-! the statement line -/
section LNE
variable {n : Nat} {μ : gM} {r : Nat → Nat → Nat} {R : List Nat}
def Qn (r : Nat → Nat → Nat) (R : List Nat) : Nat → Nat → List Nat
  | 0, _ => 59 :: R
  | m + 1, s => 32 :: (sdig (r s 0) ++ (32 :: (sdig (r s 1) ++ (32 :: (sdig (r s 2) ++ (32 :: (sdig (r s 3) ++ Qn r R m (s + 1))))))))
def TQn (n : Nat) (r : Nat → Nat → Nat) (R : List Nat) : Nat → Nat → gM → Prop
  | 0, _, μ => CTk n μ tsm R
  | m + 1, s, μ => CTk n μ (tnb (r s 0)) (32 :: (sdig (r s 1) ++ (32 :: (sdig (r s 2) ++ (32 :: (sdig (r s 3) ++ Qn r R m (s + 1)))))))
def gdx (w x : Nat) : Prop := (w < 2 → x ≤ 40000) ∧ (2 ≤ w → 1 ≤ x ∧ x ≤ 100)
theorem Qn_d (m s : Nat) : hdN dg1 (Qn r R m s) ∧ hdN lt1 (Qn r R m s) := by
  cases m with
  | zero => exact ⟨hd_d (by omega), hd_w (by decide)⟩
  | succ m => exact ⟨hd_d (by omega), hd_w (by decide)⟩
theorem adv_Q {T : Tk} {m s : Nat} (h : CTk n μ T (Qn r R m s)) (hr : 0 < m → gdx 0 (r s 0)) : ∃ μ', f_X4_advance μ = some μ' ∧ AF μ μ' ∧ TQn n r R m s μ' := by
  cases m with
  | zero => exact adv h Lx_s
  | succ m => exact adv h (Lx_n (by have := (hr (Nat.succ_pos m)).1 (by decide); omega) (hd_d (by omega)))
theorem s4 {w q x : Nat} (hw : w < 4) {S : List Nat} (h : CTk n μ (tnb x) S) (g : gdx w x) (hq : q + w < 640) : f_X4_isIntegerIn (sc 0 w) (sc 1 w) μ = some (true, μ) ∧ ∀ μ', f_X4_advance (si μ 57 (q + w) (nI x)) = some μ' → b_X4_readFour_57_2 (nI q) (nI w) μ = some (.inl (nI (w + 1), μ')) := by
  have key : ∃ i7 : gi μ 1 7 = nI x, f_X4_isIntegerIn (sc 0 w) (sc 1 w) μ = some (true, μ) := by
    have h4 : w = 0 ∨ w = 1 ∨ w = 2 ∨ w = 3 := by omega
    rcases h4 with e | e | e | e <;> subst e
    · obtain ⟨a, b⟩ := int_in (a := 0) (b := 40000) h rfl (Nat.zero_le _) (g.1 (by decide)) (by decide)
      exact ⟨b, a⟩
    · obtain ⟨a, b⟩ := int_in (a := 0) (b := 40000) h rfl (Nat.zero_le _) (g.1 (by decide)) (by decide)
      exact ⟨b, a⟩
    · obtain ⟨a, b⟩ := int_in (a := 1) (b := 100) h rfl (g.2 (by decide)).1 (g.2 (by decide)).2 (by decide)
      exact ⟨b, a⟩
    · obtain ⟨a, b⟩ := int_in (a := 1) (b := 100) h rfl (g.2 (by decide)).1 (g.2 (by decide)).2 (by decide)
      exact ⟨b, a⟩
  obtain ⟨i7, i1⟩ := key
  refine ⟨i1, fun μ' e => ?_⟩
  unfold b_X4_readFour_57_2
  rw [if_neg (show ¬ (4 : Int32) ≤ nI w from nI_ge (b := 4) hw (by decide))]
  simp (disch := omega) only [gck, nI_clamp]
  rw [i1, Option.bind_some, if_neg kT1, nI_add]
  simp (disch := omega) only [gck, nI_clamp]
  rw [i7, e, Option.bind_some, nI_1]
def e57 (a k i : Nat) : Prop := k = 57 ∧ a ≤ i ∧ i < a + 4
theorem rd_four {m s q : Nat} (h : TQn n r R (m + 1) s μ) (g : ∀ w, w < 4 → gdx w (r s w)) (g2 : 0 < m → gdx 0 (r (s + 1) 0)) (hq : q + 4 ≤ 640) : ∃ μ', f_X4_readFour_57 (nI q) μ = some (true, μ') ∧ TQn n r R m (s + 1) μ' ∧ FX (e57 q) μ μ' ∧ ∀ w, w < 4 → gi μ' 57 (q + w) = nI (r s w) := by
  have b40 : ∀ w, w < 4 → r s w ≤ 9999999 := fun w hw => by
    by_cases c : w < 2
    · have := (g w hw).1 c; omega
    · have := ((g w hw).2 (by omega)).2; omega
  have sx : ∀ (x : Int32) (w : Nat) (ν : gM), w < 4 → FX (e57 q) ν (si ν 57 (q + w) x) := fun x w ν hw => FX.s1 (Or.inl ⟨rfl, by omega, by omega⟩) ν
  have h : CTk n μ (tnb (r s 0)) (32 :: (sdig (r s 1) ++ (32 :: (sdig (r s 2) ++ (32 :: (sdig (r s 3) ++ Qn r R m (s + 1))))))) := h
  obtain ⟨-, k0⟩ := s4 (q := q) (w := 0) (by decide) h (g 0 (by decide)) (by omega)
  obtain ⟨μ1, e1, F1, T1⟩ := adv (h.sI (k := 57) (i := q + 0) (x := nI (r s 0)) (by omega)) (Lx_n (b40 1 (by decide)) (hd_d (by omega)))
  obtain ⟨-, k1⟩ := s4 (q := q) (w := 1) (by decide) T1 (g 1 (by decide)) (by omega)
  obtain ⟨μ2, e2, F2, T2⟩ := adv (T1.sI (k := 57) (i := q + 1) (x := nI (r s 1)) (by omega)) (Lx_n (b40 2 (by decide)) (hd_d (by omega)))
  obtain ⟨-, k2⟩ := s4 (q := q) (w := 2) (by decide) T2 (g 2 (by decide)) (by omega)
  obtain ⟨μ3, e3, F3, T3⟩ := adv (T2.sI (k := 57) (i := q + 2) (x := nI (r s 2)) (by omega)) (Lx_n (b40 3 (by decide)) (Qn_d m (s + 1)).1)
  obtain ⟨-, k3⟩ := s4 (q := q) (w := 3) (by decide) T3 (g 3 (by decide)) (by omega)
  obtain ⟨μ4, e4, F4, T4⟩ := adv_Q (T3.sI (k := 57) (i := q + 3) (x := nI (r s 3)) (by omega)) g2
  refine ⟨μ4, ?_, T4, (sx _ 0 _ (by decide)).tr ((AF.fx F1).tr ((sx _ 1 _ (by decide)).tr ((AF.fx F2).tr ((sx _ 2 _ (by decide)).tr ((AF.fx F3).tr ((sx _ 3 _ (by decide)).tr (AF.fx F4))))))), fun w hw => ?_⟩
  · unfold f_X4_readFour_57
    rw [show gloop (fun t => b_X4_readFour_57_2 (nI q) t.1 t.2) gFuel ((0 : Int32), μ) = some (.inl μ4) from ?_]
    · rfl
    · rw [gl_s (s := ((0 : Int32), μ)) (by unfold gFuel; omega) (k0 μ1 e1), gl_s (by unfold gFuel; omega) (k1 μ2 e2), gl_s (by unfold gFuel; omega) (k2 μ3 e3), gl_s (by unfold gFuel; omega) (k3 μ4 e4)]
      refine gl_e (by unfold gFuel; omega) ?_
      show b_X4_readFour_57_2 (nI q) (nI 4) μ4 = _
      unfold b_X4_readFour_57_2
      rw [if_pos (by decide)]
  · have o4 : ∀ i, gi μ4 57 i = gi (si μ3 57 (q + 3) (nI (r s 3))) 57 i := fun i => F4.1 57 i (by omega)
    have o3 : ∀ i, gi μ3 57 i = gi (si μ2 57 (q + 2) (nI (r s 2))) 57 i := fun i => F3.1 57 i (by omega)
    have o2 : ∀ i, gi μ2 57 i = gi (si μ1 57 (q + 1) (nI (r s 1))) 57 i := fun i => F2.1 57 i (by omega)
    have o1 : ∀ i, gi μ1 57 i = gi (si μ 57 (q + 0) (nI (r s 0))) 57 i := fun i => F1.1 57 i (by omega)
    have h4 : w = 0 ∨ w = 1 ∨ w = 2 ∨ w = 3 := by omega
    rcases h4 with e | e | e | e <;> subst e
    · rw [o4, gi_sij (by omega), o3, gi_sij (by omega), o2, gi_sij (by omega), o1, gi_sii]
    · rw [o4, gi_sij (by omega), o3, gi_sij (by omega), o2, gi_sii]
    · rw [o4, gi_sij (by omega), o3, gi_sii]
    · rw [o4, gi_sii]
def eR (k s K i : Nat) : Prop := (K = 57 ∧ 32 * k + 4 * s ≤ i ∧ i < 32 * k + 32) ∨ (K = 56 ∧ i = k)
theorem FX.mo {E E' : Nat → Nat → Prop} {a b : gM} (h : FX E a b) (hE : ∀ k i, E k i → E' k i) : FX E' a b := ⟨fun k i q r => h.1 k i q (fun w => r (hE k i w)), h.2⟩
theorem rd_sets {k : Nat} (hk : k < 20) (hr : ∀ s, s < 8 → ∀ w, w < 4 → gdx w (r s w)) : ∀ m s μ f, s + m ≤ 7 → 1 ≤ s + m → m < f → TQn n r R m s μ → ∃ μ', gloop (fun (t : Int32 × gM) => b_X4_readLine_152 (nI k) t.1 t.2) f (nI s, μ) = some (.inr (true, μ')) ∧ CTk n μ' tsm R ∧ FX (eR k s) μ μ' ∧ (∀ s', s ≤ s' → s' < s + m → ∀ w, w < 4 → gi μ' 57 (32 * k + 4 * s' + w) = nI (r s' w)) ∧ gi μ' 56 k = if m = 0 then gi μ 56 k else nI (s + m) := by
  intro m
  induction m with
  | zero =>
    intro s μ f h1 h2 hf h
    have h : CTk n μ tsm R := h
    refine ⟨μ, gl_e hf ?_, h, FX.rf _ μ, fun s' a b => absurd b (by omega), rfl⟩
    show b_X4_readLine_152 (nI k) (nI s) μ = _
    unfold b_X4_readLine_152
    rw [if_neg (show ¬ (8 : Int32) ≤ nI s from nI_ge (b := 8) (by omega) (by decide)), if_neg (nI_nle (by omega) (by omega)), h.kd, if_neg (by decide)]
  | succ m ih =>
    intro s μ f h1 h2 hf h
    obtain ⟨μ1, e1, T1, F1, v1⟩ := rd_four (q := 32 * k + 4 * s) h (hr s (by omega)) (fun hm => hr (s + 1) (by omega) 0 (by decide)) (by omega)
    obtain ⟨μ2, hμ2⟩ : ∃ μ2, μ2 = si μ1 56 k (nI (s + 1)) := ⟨_, rfl⟩
    have T2 : TQn n r R m (s + 1) μ2 := by
      rw [hμ2]
      cases m with
      | zero => exact CTk.sI (T := tsm) T1 (by omega)
      | succ m => exact CTk.sI (T := tnb (r (s + 1) 0)) T1 (by omega)
    have step : b_X4_readLine_152 (nI k) (nI s) μ = some (.inl (nI (s + 1), μ2)) := by
      have j : j_X4_readLine_172 (nI k) (nI s) μ = some (.inl (nI (s + 1), μ2)) := by
        unfold j_X4_readLine_172
        rw [c_placeb hk (by omega), Option.bind_some, e1, Option.bind_some, if_neg kT1]
        simp (disch := omega) only [gck, nI_clamp]
        rw [nI_1, hμ2]
      have h' : gi μ 1 5 = 2 := CTk.kd (T := tnb (r s 0)) h
      unfold b_X4_readLine_152
      rw [if_neg (show ¬ (8 : Int32) ≤ nI s from nI_ge (b := 8) (by omega) (by decide)), h', if_pos rfl, j]
      split <;> rfl
    obtain ⟨μ', q1, q2, q3, q4, q5⟩ := ih (s + 1) μ2 (f - 1) (by omega) (by omega) (by omega) T2
    have F2 : FX (eR k s) μ μ2 := by
      rw [hμ2]
      exact (F1.mo (fun K i w => Or.inl ⟨w.1, w.2.1, by have := w.2.2; omega⟩)).tr (FX.s1 (Or.inl (Or.inr ⟨rfl, rfl⟩)) μ1)
    refine ⟨μ', (gl_s (s := (nI s, μ)) (by omega) step).trans q1, q2, F2.tr (q3.mo (fun K i w => w.imp (fun w => ⟨w.1, by omega, w.2.2⟩) id)), fun s' a b w hw => ?_, ?_⟩
    · by_cases c : s' = s
      · subst c
        rw [q3.1 57 _ (by omega) (fun z => by rcases z with z | z <;> omega), hμ2, gi_sik (by decide)]
        exact v1 w hw
      · exact q4 s' (by omega) (by omega) w hw
    · rw [q5, if_neg (Nat.succ_ne_zero m)]
      by_cases c : m = 0
      · rw [if_pos c, hμ2, gi_sii, c]
      · rw [if_neg c]; congr 1; omega
end LNE

/-! the text as a list: tokens one after another -/
abbrev Tk : Type := Nat × List Nat × Nat
def twd (w : List Nat) : Tk := (1, w, 0)
def tnb (x : Nat) : Tk := (2, [], x)
def tsm : Tk := (3, [], 0)
def ten : Tk := (0, [], 0)
def Sx (t : Nat → Int32) (n p : Nat) (S : List Nat) : Prop := p + S.length = n ∧ ∀ i, i < S.length → t (p + i) = nI (S.getD i 0)
def lt1 (x : Nat) : Prop := 97 ≤ x ∧ x ≤ 122
def dg1 (x : Nat) : Prop := 48 ≤ x ∧ x ≤ 57
def hdN (P : Nat → Prop) (S : List Nat) : Prop := S = [] ∨ (¬ P (S.getD 0 0) ∧ S.getD 0 0 < 256)
def Lx (S : List Nat) (T : Tk) (S' : List Nat) : Prop := (∃ b w, S = b ++ (w ++ S') ∧ T = twd w ∧ (∀ x, x ∈ b → x = 32) ∧ w ≠ [] ∧ (∀ x, x ∈ w → lt1 x) ∧ hdN lt1 S') ∨ (∃ b x, S = b ++ (sdig x ++ S') ∧ T = tnb x ∧ (∀ x, x ∈ b → x = 32) ∧ x ≤ 9999999 ∧ hdN dg1 S') ∨ (S = 59 :: S' ∧ T = tsm) ∨ (S = [] ∧ S' = [] ∧ T = ten)
def CTk (n : Nat) (μ : gM) (T : Tk) (S : List Nat) : Prop := ∃ p k s e, SR n p k s e μ ∧ Sx (gi μ 2) n e S ∧ k = T.1 ∧ (T.1 = 1 → e = s + T.2.1.length ∧ (∀ i, i < T.2.1.length → gi μ 2 (s + i) = nI (T.2.1.getD i 0)) ∧ ∀ x, x ∈ T.2.1 → lt1 x) ∧ (T.1 = 2 → gi μ 1 7 = nI T.2.2)
theorem Sx_app {t : Nat → Int32} {n p : Nat} {A S : List Nat} (h : Sx t n p (A ++ S)) : (∀ i, i < A.length → t (p + i) = nI (A.getD i 0)) ∧ Sx t n (p + A.length) S := by
  obtain ⟨h1, h2⟩ := h
  rw [List.length_append] at h1 h2
  refine ⟨fun i hi => ?_, by omega, fun i hi => ?_⟩
  · rw [h2 i (by omega), List.getD_eq_getElem?_getD, List.getD_eq_getElem?_getD, List.getElem?_append_left hi]
  · rw [Nat.add_assoc, h2 (A.length + i) (by omega), List.getD_eq_getElem?_getD, List.getD_eq_getElem?_getD, List.getElem?_append_right (by omega), Nat.add_sub_cancel_left]
theorem getD_m {A : List Nat} {i : Nat} (h : i < A.length) : A.getD i 0 ∈ A := by
  rw [List.getD_eq_getElem?_getD, List.getElem?_eq_getElem h]
  exact List.getElem_mem h
theorem ltr_n {x : Nat} (hx : x < 2 ^ 31) : ltr (nI x) ↔ lt1 x := by
  unfold ltr lt1
  rw [show (97 : Int32) = nI 97 from rfl, show (122 : Int32) = nI 122 from rfl, nI_ltI hx (by decide), nI_ltI (by decide) hx]
  omega
theorem dgt_n {x : Nat} (hx : x < 2 ^ 31) : dgt (nI x) ↔ dg1 x := by
  unfold dgt dg1
  rw [show (48 : Int32) = nI 48 from rfl, show (57 : Int32) = nI 57 from rfl, nI_ltI hx (by decide), nI_ltI (by decide) hx]
  omega
theorem blk_n {x : Nat} (hx : x < 2 ^ 31) : blk (nI x) ↔ x = 32 ∨ x = 10 := by
  unfold blk
  rw [show (32 : Int32) = nI 32 from rfl, show (10 : Int32) = nI 10 from rfl, nI_eq hx (by decide), nI_eq hx (by decide)]
theorem hd_n {t : Nat → Int32} {n e : Nat} {S : List Nat} {P : Nat → Prop} {Q : Int32 → Prop} (hPQ : ∀ x, x < 2 ^ 31 → (Q (nI x) ↔ P x)) (X : Sx t n e S) (h : hdN P S) : e = n ∨ ¬ Q (t e) := by
  cases S with
  | nil => left; exact X.1
  | cons x S =>
    right
    rcases h with h | ⟨h, h2⟩
    · cases h
    · have := X.2 0 (Nat.succ_pos _)
      rw [Nat.add_zero] at this
      rw [this, hPQ _ (by omega)]
      exact h
theorem sdig_s (v : Nat) : sdig v = if v < 10 then [48 + v] else sdig (v / 10) ++ [48 + v % 10] := by rw [sdig]
theorem sdig_d : ∀ v x, x ∈ sdig v → dg1 x := by
  intro v
  induction v using Nat.strongRecOn with
  | ind v ih =>
    intro x hx
    rw [sdig_s] at hx
    by_cases c : v < 10
    · rw [if_pos c] at hx
      rw [List.mem_singleton.mp hx]
      unfold dg1; omega
    · rw [if_neg c] at hx
      rcases List.mem_append.mp hx with h | h
      · exact ih (v / 10) (by omega) x h
      · rw [List.mem_singleton.mp h]
        unfold dg1; omega
theorem sdig_n : ∀ v, sdig v ≠ [] := by
  intro v h
  rw [sdig_s] at h
  by_cases c : v < 10
  · rw [if_pos c] at h; cases h
  · rw [if_neg c] at h
    have := congrArg List.length h
    rw [List.length_append] at this
    simp at this
theorem nb_sdig {t : Nat → Int32} {s : Nat} : ∀ v, v ≤ 9999999 → (∀ i, i < (sdig v).length → t (s + i) = nI ((sdig v).getD i 0)) → nbC t s (sdig v).length = nI v := by
  intro v
  induction v using Nat.strongRecOn with
  | ind v ih =>
    intro hv h
    by_cases c : v < 10
    · have e : sdig v = [48 + v] := by rw [sdig_s, if_pos c]
      rw [e] at h ⊢
      show (if (9999999 : Int32) < (0 : Int32) then (0 : Int32) else ((10 : Int32) * 0) + (t (s + 0) - 48)) = nI v
      have h0 := h 0 (Nat.succ_pos 0)
      rw [if_neg (by decide), h0]
      show ((10 : Int32) * 0) + (nI (48 + v) - nI 48) = nI v
      rw [pk_sub (by omega), Nat.add_sub_cancel_left]
      show nI 0 + nI v = nI v
      rw [nI_add, Nat.zero_add]
    · have e : sdig v = sdig (v / 10) ++ [48 + v % 10] := by rw [sdig_s, if_neg c]
      rw [e] at h ⊢
      rw [List.length_append, List.length_singleton] at h ⊢
      have i1 := ih (v / 10) (by omega) (by omega) (fun i hi => by
        rw [h i (by omega), List.getD_eq_getElem?_getD, List.getD_eq_getElem?_getD, List.getElem?_append_left hi])
      have h1 := h (sdig (v / 10)).length (by omega)
      rw [List.getD_eq_getElem?_getD, List.getElem?_append_right (Nat.le_refl _), Nat.sub_self] at h1
      show (if (9999999 : Int32) < nbC t s (sdig (v / 10)).length then nbC t s (sdig (v / 10)).length else ((10 : Int32) * nbC t s (sdig (v / 10)).length) + (t (s + (sdig (v / 10)).length) - 48)) = nI v
      rw [i1, if_neg (show ¬ (9999999 : Int32) < nI (v / 10) from nI_nlt (a := 9999999) (by omega) (by decide)), h1]
      show (nI 10 * nI (v / 10)) + (nI (48 + v % 10) - nI 48) = nI v
      rw [pk_sub (by omega), Nat.add_sub_cancel_left, pk_mul, nI_add]
      congr 1; omega
theorem c_nxt {n e : Nat} {μ : gM} (h1 : n ≤ 1200) (h2 : gi μ 1 2 = nI n) (he : e ≤ n) (h5 : gi μ 1 4 = nI e) : ∃ ν k2 s2 e2, f_X4_advance μ = some ν ∧ AF μ ν ∧ SR n e k2 s2 e2 ν := by
  obtain ⟨ν, k2, s2, e2, g1, g2, g3, g4, g5, g6, g7, g8⟩ := c_adv h1 h2 he h5
  have tx : gi ν 2 = gi μ 2 := funext fun j => g2.1 2 j (by omega)
  exact ⟨ν, k2, s2, e2, g1, g2, h1, (g2.1 1 2 (by omega)).trans h2, by rw [tx]; exact g3, g4, g5, g6, by rw [tx]; exact g7, by rw [tx]; exact g8⟩
/-- the next token -/
theorem advG {n e : Nat} {μ : gM} {T' : Tk} {S S' : List Nat} (h1 : n ≤ 1200) (h2 : gi μ 1 2 = nI n) (h5 : gi μ 1 4 = nI e) (X : Sx (gi μ 2) n e S) (L : Lx S T' S') : ∃ μ', f_X4_advance μ = some μ' ∧ AF μ μ' ∧ CTk n μ' T' S' := by
  obtain ⟨ν, k2, s2, e2, a1, F, R2⟩ := c_nxt h1 h2 (by have := X.1; omega) h5
  have tx : gi ν 2 = gi μ 2 := funext (fun i => F.1 2 i (by omega))
  have T2 : Tok (gi μ 2) n e k2 s2 e2 := by have := R2.2.2.1; rwa [tx] at this
  refine ⟨ν, a1, F, ?_⟩
  have blq : ∀ (b : List Nat) (q : Nat), (∀ x, x ∈ b → x = 32) → (∀ i, i < b.length → gi μ 2 (q + i) = nI (b.getD i 0)) → ∀ i, q ≤ i → i < q + b.length → blk (gi μ 2 i) := fun b q hb hq i h1 h2 => by
    have h3 := hq (i - q) (by omega)
    rw [show q + (i - q) = i by omega, hb _ (getD_m (by omega))] at h3
    rw [h3]; exact Or.inl rfl
  rcases L with ⟨b, w, rfl, rfl, hb, hw, hl, hd⟩ | ⟨b, x, rfl, rfl, hb, hx, hd⟩ | ⟨rfl, rfl⟩ | ⟨rfl, rfl, rfl⟩
  · obtain ⟨x1, X1⟩ := Sx_app X
    obtain ⟨x2, X2⟩ := Sx_app X1
    have hw0 : 0 < w.length := List.length_pos_iff.mpr hw
    have lx : ∀ i, i < w.length → ltr (gi μ 2 (e + b.length + i)) := fun i hi => by
      have hm := hl _ (getD_m hi)
      rw [x2 i hi]
      exact (ltr_n (by unfold lt1 at hm; omega)).mpr hm
    have hX := X2.1
    have T3 : Tok (gi μ 2) n e 1 (e + b.length) (e + b.length + w.length) := by
      refine ⟨by omega, by omega, blq b e hb x1, Or.inr ⟨by omega, ?_, Or.inl ⟨?_, rfl, by omega, by omega, fun i h1 h2 => ?_, hd_n (fun x hx => ltr_n hx) X2 hd⟩⟩⟩
      · have := lx 0 hw0
        rw [Nat.add_zero] at this
        intro q
        rcases q with q | q
        · rw [q] at this; exact this.1 (by decide)
        · rw [q] at this; exact this.1 (by decide)
      · have := lx 0 hw0
        rwa [Nat.add_zero] at this
      · have := lx (i - (e + b.length)) (by omega)
        rwa [show e + b.length + (i - (e + b.length)) = i by omega] at this
    obtain ⟨rfl, rfl, rfl⟩ := Tok_u T2 T3
    exact ⟨e, 1, _, _, R2, by rw [tx]; exact X2, rfl, fun _ => ⟨rfl, fun i hi => by rw [tx]; exact x2 i hi, hl⟩, fun h => by cases h⟩
  · obtain ⟨x1, X1⟩ := Sx_app X
    obtain ⟨x2, X2⟩ := Sx_app X1
    have hw0 : 0 < (sdig x).length := List.length_pos_iff.mpr (sdig_n x)
    have dx : ∀ i, i < (sdig x).length → dgt (gi μ 2 (e + b.length + i)) := fun i hi => by
      have hm := sdig_d x _ (getD_m hi)
      rw [x2 i hi]
      exact (dgt_n (by unfold dg1 at hm; omega)).mpr hm
    have hX := X2.1
    have nl : ¬ ltr (gi μ 2 (e + b.length)) := by
      have hm := sdig_d x _ (getD_m hw0)
      have := x2 0 hw0
      rw [Nat.add_zero] at this
      rw [this, ltr_n (by unfold dg1 at hm; omega)]
      unfold dg1 at hm; unfold lt1; omega
    have T3 : Tok (gi μ 2) n e 2 (e + b.length) (e + b.length + (sdig x).length) := by
      refine ⟨by omega, by omega, blq b e hb x1, Or.inr ⟨by omega, ?_, Or.inr (Or.inl ⟨nl, ?_, rfl, by omega, by omega, fun i h1 h2 => ?_, hd_n (fun x hx => dgt_n hx) X2 hd⟩)⟩⟩
      · have := dx 0 hw0
        rw [Nat.add_zero] at this
        intro q
        rcases q with q | q
        · rw [q] at this; exact this.1 (by decide)
        · rw [q] at this; exact this.1 (by decide)
      · have := dx 0 hw0
        rwa [Nat.add_zero] at this
      · have := dx (i - (e + b.length)) (by omega)
        rwa [show e + b.length + (i - (e + b.length)) = i by omega] at this
    obtain ⟨rfl, rfl, rfl⟩ := Tok_u T2 T3
    refine ⟨e, 2, _, _, R2, by rw [tx]; exact X2, rfl, (fun h => by cases h), fun _ => ?_⟩
    rw [R2.2.2.2.2.2.2.2 rfl, tx, Nat.add_sub_cancel_left]
    exact nb_sdig x hx x2
  · have X' : Sx (gi μ 2) n e ([59] ++ S') := X
    obtain ⟨x1, X1⟩ := Sx_app X'
    have x0 : gi μ 2 e = 59 := x1 0 (by decide)
    have hX : e + 1 + S'.length = n := X1.1
    have T3 : Tok (gi μ 2) n e 3 e (e + 1) := by
      refine ⟨Nat.le_refl _, by omega, fun i h1 h2 => by omega, Or.inr ⟨by omega, ?_, Or.inr (Or.inr ⟨?_, ?_, rfl, ?_⟩)⟩⟩
      · rw [x0]; unfold blk; decide
      · rw [x0]; unfold ltr; decide
      · rw [x0]; unfold dgt; decide
      · rw [x0]; rfl
    obtain ⟨rfl, rfl, rfl⟩ := Tok_u T2 T3
    exact ⟨_, 3, _, _, R2, by rw [tx]; exact X1, rfl, (fun h => by cases h), fun h => by cases h⟩
  · have hX : e = n := X.1
    have T3 : Tok (gi μ 2) n e 0 e e := ⟨Nat.le_refl _, by omega, fun i h1 h2 => by omega, Or.inl ⟨hX, rfl, rfl⟩⟩
    obtain ⟨rfl, rfl, rfl⟩ := Tok_u T2 T3
    exact ⟨_, 0, _, _, R2, by rw [tx]; exact X, rfl, (fun h => by cases h), fun h => by cases h⟩
theorem adv {n : Nat} {μ : gM} {T T' : Tk} {S S' : List Nat} (h : CTk n μ T S) (L : Lx S T' S') : ∃ μ', f_X4_advance μ = some μ' ∧ AF μ μ' ∧ CTk n μ' T' S' := by
  obtain ⟨p, k, s, e, R, X, -, -, -⟩ := h
  exact advG R.1 R.2.1 R.2.2.2.2.1 X L

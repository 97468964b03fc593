section QM
variable {v : Nat → Nat → Int32} {μ : gM} {A : Nat}
/-! what the loops answer (38 39 40) -/
noncomputable def wlf (v : Nat → Nat → Int32) (A : Nat) : Nat → Option Nat × Int
  | 0 => (none, 0)
  | i + 1 => if wE v A i ≤ (wlf v A i).2 then wlf v A i else (some i, wE v A i)
theorem wlf_s (i : Nat) : wlf v A (i + 1) = if wE v A i ≤ (wlf v A i).2 then wlf v A i else (some i, wE v A i) := rfl
theorem wlf_I : ∀ i, 0 ≤ (wlf v A i).2 ∧ ((wlf v A i).1 = none → (wlf v A i).2 = 0) ∧ ∀ j, (wlf v A i).1 = some j → j < i
  | 0 => ⟨Int.le_refl _, fun _ => rfl, fun j h => by cases h⟩
  | i + 1 => by
    obtain ⟨h1, h2, h3⟩ := wlf_I i
    rw [wlf_s]
    by_cases c : wE v A i ≤ (wlf v A i).2
    · rw [if_pos c]; exact ⟨h1, h2, fun j h => Nat.lt_succ_of_lt (h3 j h)⟩
    · rw [if_neg c]
      refine ⟨(by show 0 ≤ wE v A i; omega), (fun h => by cases h), fun j h => ?_⟩
      have : i = j := Option.some.inj h
      omega
/-- lines in a loop -/
theorem wset_f {k : Nat} (hk : k < 32) : ∀ (L : List (Nat × Nat)) (s : Int32), (∀ x, x ∈ L → x.1 < 32) → (bt (List.foldl (fun s (x : Nat × Nat) => s ||| ((1 : Int32) <<< (nI x.1 &&& 31))) s L) k = true ↔ bt s k = true ∨ ∃ x, x ∈ L ∧ x.1 = k)
  | [], s, _ => ⟨Or.inl, fun h => h.elim id (fun ⟨x, hx, _⟩ => by cases hx)⟩
  | x :: L, s, hL => by
    show bt (List.foldl _ (s ||| ((1 : Int32) <<< (nI x.1 &&& 31))) L) k = true ↔ _
    rw [wset_f hk L _ (fun y hy => hL y (List.mem_cons_of_mem _ hy)), b_or, b_one x.1 (hL x List.mem_cons_self) k hk, Bool.or_eq_true, decide_eq_true_iff]
    constructor
    · rintro ((h | h) | ⟨y, hy, h⟩)
      · exact Or.inl h
      · exact Or.inr ⟨x, List.mem_cons_self, h.symm⟩
      · exact Or.inr ⟨y, List.mem_cons_of_mem _ hy, h⟩
    · rintro (h | ⟨y, hy, h⟩)
      · exact Or.inl (Or.inl h)
      · rcases List.mem_cons.mp hy with e | e
        · exact Or.inl (Or.inr (by rw [← h, e]))
        · exact Or.inr ⟨y, e, h⟩
theorem wset_b {k : Nat} (hk : k < 32) {L : List (Nat × Nat)} (hL : ∀ x, x ∈ L → x.1 < 32) : bt (wset L) k = true ↔ ∃ x, x ∈ L ∧ x.1 = k := by
  have := wset_f hk L 0 hL
  rw [b_0] at this
  exact this.trans ⟨fun h => h.elim (fun w => by cases w) id, Or.inr⟩
/-- loops that a line alone is to blame for -/
noncomputable def bof (v : Nat → Nat → Int32) (A k : Nat) : Nat → Option Nat
  | 0 => some 0
  | i + 1 => Option.bind (bof v A k i) (fun c => if bt (wset (XL v A i)) k = true then (if 0 < wE v A i then some (c + 1) else none) else some c)
theorem bof_s (k i : Nat) : bof v A k (i + 1) = Option.bind (bof v A k i) (fun c => if bt (wset (XL v A i)) k = true then (if 0 < wE v A i then some (c + 1) else none) else some c) := rfl
theorem bof_n {k i : Nat} (h : bof v A k i = none) : ∀ j, bof v A k (i + j) = none
  | 0 => h
  | j + 1 => by rw [← Nat.add_assoc, bof_s, bof_n h j]; rfl
theorem bof_le {k : Nat} : ∀ i c, bof v A k i = some c → c ≤ i
  | 0, c, h => by cases h; exact Nat.le_refl _
  | i + 1, c, h => by
    rw [bof_s] at h
    cases e : bof v A k i with
    | none => rw [e] at h; cases h
    | some d =>
      have hd := bof_le i d e
      rw [e, Option.bind_some] at h
      by_cases b1 : bt (wset (XL v A i)) k = true
      · rw [if_pos b1] at h
        by_cases b2 : 0 < wE v A i
        · rw [if_pos b2] at h; cases h; omega
        · rw [if_neg b2] at h; cases h
      · rw [if_neg b1] at h; cases h; omega
noncomputable def boN (v : Nat → Nat → Int32) (A k : Nat) : Nat := (bof v A k (nlp v A)).getD 0
theorem boN_le (C : CI v) (k : Nat) : boN v A k ≤ 20 := by
  have hn := nlp_le (A := A) C
  unfold boN
  cases e : bof v A k (nlp v A) with
  | none => exact Nat.zero_le _
  | some c => have := bof_le _ _ e; show c ≤ 20; omega
theorem boN_n {k i : Nat} (hi : i ≤ nlp v A) (h : bof v A k i = none) : boN v A k = 0 := by
  have := bof_n h (nlp v A - i)
  rw [show i + (nlp v A - i) = nlp v A by omega] at this
  unfold boN
  rw [this]; rfl
end QM

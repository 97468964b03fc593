/-! the two readers test words alike -/
section RW
variable {μ : gM} {t : Nat → Int32} {n p k s e : Nat}
theorem Tok_l (h : Tok t n p 1 s e) : s < e ∧ ∀ i, s ≤ i → i < e → ltr (t i) := by
  obtain ⟨a1, a2, a3, a4⟩ := h
  rcases a4 with ⟨c1, c2, c3⟩ | ⟨c1, c2, c3⟩
  · cases c2
  · rcases c3 with ⟨x1, x2, x3, x4, x5, x6⟩ | ⟨x1, x2, x3, x4, x5, -⟩ | ⟨x1, x2, x3, x4⟩
    · exact ⟨x3, x5⟩
    · cases x3
    · exfalso
      by_cases c : t s = 59
      · rw [if_pos c] at x4; cases x4
      · rw [if_neg c] at x4; cases x4
theorem cm_word (h : SR n p k s e μ) {m j : Nat} {W : Int64} (hm : 1 ≤ m ∧ m ≤ 9) (hW : W = lN (w32 (sc j) 0 m) ∧ ∀ x, x < m → ltr (sc j x)) : ∃ b, iwd (nI m) m j μ = some b ∧ ∀ ρ, MR (gi μ 2) n p k s e ρ → gi ρ 60 17 = 0 → f_X8_isWord W ρ = some b := by
  obtain ⟨h1, h2, h3, h4, h5, h6, h7, h8⟩ := h
  have T := Tok_le h3
  obtain ⟨b, b1, b2⟩ := c_isW (k := j) hm.2 T.2.2.2.1 T.2.1 (by omega) h4 h5 h6
  refine ⟨b, b1, fun ρ M hg => ?_⟩
  obtain ⟨m1, m2, m3, m4, m5, m6, m7⟩ := M
  unfold f_X8_isWord
  rw [hg, if_pos rfl, m5]
  by_cases c : k = 1
  · subst c
    obtain ⟨l1, l2⟩ := Tok_l h3
    have w := wd_is hW.1 hm (fun x _ hx => hW.2 x (by omega)) l1 l2
    rw [if_pos (show nI 1 = (1 : Int32) from rfl), m6 rfl]
    by_cases d : (if e - s ≤ 12 then wdM (gi μ 2) s (e - s) else 0) = W
    · rw [if_pos d, b2.mpr ⟨rfl, w.mp d⟩]
    · rw [if_neg d, Bool.eq_false_iff.mpr (fun q => d (w.mpr (b2.mp q).2))]
  · rw [if_neg (show ¬ nI k = (1 : Int32) from fun w => c ((nI_eq (b := 1) (by omega) (by decide)).mp w)), Bool.eq_false_iff.mpr (fun q => c (b2.mp q).1)]
end RW

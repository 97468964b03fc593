/-! letters into the class's text -/
section PUT
variable {μ : gM}
theorem by8 {m : Nat} (hm : m < 2 ^ 31) (h : m % 256 < 128) : (nI m).toInt8.toInt32 = nI (m % 256) := by
  refine Int32.toInt_inj.mp ?_
  rw [Int8.toInt_toInt32, Int32.toInt_toInt8, nI_toInt hm, nI_toInt (by omega)]
  have e : (m : Int) = ((m % 256 : Nat) : Int) + 256 * ((m / 256 : Nat) : Int) := by omega
  rw [e]
  show Int.bmod (((m % 256 : Nat) : Int) + ((256 : Nat) : Int) * ((m / 256 : Nat) : Int)) 256 = _
  rw [Int.add_mul_bmod_self_left, Int.bmod_eq_of_le (by omega) (by omega)]
def apL (m : Nat) (y : Nat) (μ : gM) : gM := si (si μ 2 m (nI y)) 1 1 (nI (m + 1))
theorem apL_s {n k j m y : Nat} (hn : n < 2 ^ 31) (hk : ((nI k &&& 31 : Int32).toBitVec.smod 32).toNat = j) (hk2 : k < 100) (hy : n / 2 ^ j % 256 = y) (hy2 : y < 128) (h1 : gi μ 1 1 = nI m) (hm : m < 1200) : b_X4_append_3 (nI n) (nI k) μ = some (.inl (nI k + (-8 : Int32), apL m y μ)) := by
  have hq : n / 2 ^ j < 2 ^ 31 := Nat.lt_of_le_of_lt (Nat.div_le_self _ _) hn
  unfold b_X4_append_3
  rw [if_neg (nI_pos (by omega)), h1, gck hm (by decide), nI_clamp (by omega), pk_shrN hn _ j hk, by8 hq (by rw [hy]; exact hy2), hy]
  have hv : vp_nar .byte (nI y) = nI y := by
    have := pk_vb (nI y)
    rwa [by8 (m := y) (by omega) (by rw [Nat.mod_eq_of_lt (by omega)]; exact hy2), Nat.mod_eq_of_lt (show y < 256 by omega)] at this
  rw [hv, show gi (si μ 2 m (nI y)) 1 1 = nI m from (gi_sik (by decide)).trans h1, nI_1]
  rfl
theorem apL_1 {m y : Nat} : gi (apL m y μ) 1 1 = nI (m + 1) := gi_sii
theorem apL_4 {a b c d m : Nat} (ha : a < 128) (hb : b < 128) (hc : c < 128) (hd : d < 128) (h1 : gi μ 1 1 = nI m) (hm : m + 4 ≤ 1200) : f_X4_append (nI (a * 16777216 + b * 65536 + c * 256 + d)) μ = some (apL (m + 3) d (apL (m + 2) c (apL (m + 1) b (apL m a μ)))) := by
  generalize hW : a * 16777216 + b * 65536 + c * 256 + d = W
  have hn : W < 2 ^ 31 := by omega
  have s0 := apL_s (μ := μ) (n := W) (k := 24) (j := 24) (y := a) hn (by decide) (by decide) (by omega) ha h1 (by omega)
  have s1 := apL_s (μ := apL m a μ) (n := W) (k := 16) (j := 16) (y := b) hn (by decide) (by decide) (by omega) hb apL_1 (by omega)
  have s2 := apL_s (μ := apL (m + 1) b (apL m a μ)) (n := W) (k := 8) (j := 8) (y := c) hn (by decide) (by decide) (by omega) hc apL_1 (by omega)
  have s3 := apL_s (μ := apL (m + 2) c (apL (m + 1) b (apL m a μ))) (n := W) (k := 0) (j := 0) (y := d) hn (by decide) (by decide) (by omega) hd apL_1 (by omega)
  unfold f_X4_append
  have g : gloop (fun t => b_X4_append_3 (nI W) t.1 t.2) gFuel ((24 : Int32), μ) = some (apL (m + 3) d (apL (m + 2) c (apL (m + 1) b (apL m a μ)))) := by
    rw [gl_s (s := ((24 : Int32), μ)) (by unfold gFuel; omega) s0, show nI 24 + (-8 : Int32) = nI 16 by decide, gl_s (by unfold gFuel; omega) s1, show nI 16 + (-8 : Int32) = nI 8 by decide, gl_s (by unfold gFuel; omega) s2, show nI 8 + (-8 : Int32) = nI 0 by decide, gl_s (by unfold gFuel; omega) s3]
    refine gl_e (by unfold gFuel; omega) ?_
    show b_X4_append_3 (nI W) (nI 0 + (-8 : Int32)) _ = _
    unfold b_X4_append_3
    rw [if_pos (by decide)]
  rw [g]; rfl
theorem word4 {a b c d : Nat} (ha : a < 128) (hb : b < 128) (hc : c < 128) (hd : d < 128) : ((((0 : Int32) ||| nI a <<< shv 0) ||| nI b <<< shv 1) ||| nI c <<< shv 2) ||| nI d <<< shv 3 = nI (a * 16777216 + b * 65536 + c * 256 + d) := by
  have z : ∀ x : Int32, (0 : Int32) ||| x = x := fun x => b_ext (fun i hi => by rw [b_or, b_0, Bool.false_or])
  rw [z, pk_shlN (shv 0) 24 (by decide) (by omega), pk_shlN (shv 1) 16 (by decide) (by omega), pk_shlN (shv 2) 8 (by decide) (by omega), pk_shlN (shv 3) 0 (by decide) (by omega)]
  rw [show a * 2 ^ 24 = 2 ^ 24 * a from Nat.mul_comm _ _, nx_sum (k := 24) _ (by omega), show 2 ^ 24 * a + b * 2 ^ 16 = 2 ^ 16 * (256 * a + b) by omega, nx_sum (k := 16) _ (by omega), show 2 ^ 16 * (256 * a + b) + c * 2 ^ 8 = 2 ^ 8 * (65536 * a + 256 * b + c) by omega, nx_sum (k := 8) _ (by omega)]
  congr 1; omega
theorem rv {t : List Nat} {i : Nat} (h : ∀ q, t.getD q 0 < 128) : ∀ j, j < 5 → rowv t i 20 j = nI (t.getD (i + 4 * j) 0 * 16777216 + t.getD (i + (4 * j + 1)) 0 * 65536 + t.getD (i + (4 * j + 2)) 0 * 256 + t.getD (i + (4 * j + 3)) 0) := by
  intro j hj
  rw [← word4 (h _) (h _) (h _) (h _)]
  have h5 : j = 0 ∨ j = 1 ∨ j = 2 ∨ j = 3 ∨ j = 4 := by omega
  rcases h5 with q | q | q | q | q <;> subst q <;> rfl
/-- one row more -/
def TC (t : List Nat) (m : Nat) (μ0 μ : gM) : Prop := gi μ 1 1 = nI m ∧ (∀ q, q < m → gi μ 2 q = nI (t.getD q 0)) ∧ (∀ k i, (k ≠ 1 ∨ i ≠ 1) → k ≠ 2 → gi μ k i = gi μ0 k i) ∧ μ.2 = μ0.2
theorem TC.ap {t : List Nat} {m y : Nat} {μ0 : gM} (H : TC t m μ0 μ) (hy : y = t.getD m 0) : TC t (m + 1) μ0 (apL m y μ) := by
  obtain ⟨h1, h2, h3, h4⟩ := H
  refine ⟨gi_sii, fun q hq => ?_, fun k i a b => ?_, h4⟩
  · unfold apL
    rw [gi_sik (by decide)]
    by_cases c : q = m
    · rw [c, gi_sii, hy]
    · rw [gi_sij c]; exact h2 q (by omega)
  · unfold apL
    rw [gi_si, if_neg (by omega), gi_sik b]; exact h3 k i a b
theorem feed {t : List Nat} (h : ∀ q, t.getD q 0 < 128) {m : Nat} {μ0 : gM} (H : TC t m μ0 μ) (hm : m + 20 ≤ 1200) : ∃ r μ', f_X7_feed (rowv t m 20 0) (rowv t m 20 1) (rowv t m 20 2) (rowv t m 20 3) (rowv t m 20 4) μ = some (r, μ') ∧ TC t (m + 20) μ0 μ' := by
  have one : ∀ (j : Nat) (μ : gM), j < 5 → TC t (m + 4 * j) μ0 μ → ∃ μ', f_X4_append (rowv t m 20 j) μ = some μ' ∧ TC t (m + 4 * (j + 1)) μ0 μ' := fun j μ hj H => by
    refine ⟨_, by rw [rv h j hj]; exact apL_4 (h _) (h _) (h _) (h _) H.1 (by omega), ?_⟩
    have := (((H.ap rfl).ap (y := t.getD (m + (4 * j + 1)) 0) rfl).ap (y := t.getD (m + (4 * j + 2)) 0) rfl).ap (y := t.getD (m + (4 * j + 3)) 0) rfl
    exact this
  obtain ⟨μ1, e1, H1⟩ := one 0 μ (by decide) H
  obtain ⟨μ2, e2, H2⟩ := one 1 μ1 (by decide) H1
  obtain ⟨μ3, e3, H3⟩ := one 2 μ2 (by decide) H2
  obtain ⟨μ4, e4, H4⟩ := one 3 μ3 (by decide) H3
  obtain ⟨μ5, e5, H5⟩ := one 4 μ4 (by decide) H4
  refine ⟨gi μ5 1 1, μ5, ?_, H5⟩
  unfold f_X7_feed
  rw [H.1, if_pos (show nI m + 20 ≤ (1200 : Int32) by rw [show (20 : Int32) = nI 20 from rfl, nI_add]; exact nI_le (b := 1200) hm (by decide)), e1, Option.bind_some, e2, Option.bind_some, e3, Option.bind_some, e4, Option.bind_some, e5, Option.bind_some]
theorem rows {t : List Nat} (h : ∀ q, t.getD q 0 < 128) {μ0 : gM} : ∀ n m μ, m + 20 * n ≤ 1200 → TC t m μ0 μ → ∃ μ', f_rows t n m μ = some μ' ∧ TC t (m + 20 * n) μ0 μ'
  | 0, m, μ, _, H => ⟨μ, rfl, H⟩
  | n + 1, m, μ, hm, H => by
    obtain ⟨r, μ1, e1, H1⟩ := feed h H (by omega)
    obtain ⟨μ2, e2, H2⟩ := rows h n (m + 20) μ1 (by omega) H1
    refine ⟨μ2, ?_, by rw [show m + 20 * (n + 1) = m + 20 + 20 * n by omega]; exact H2⟩
    show Option.bind (f_X7_feed _ _ _ _ _ μ) _ = _
    rw [e1, Option.bind_some]
    exact e2
theorem l_put {t : List Nat} (h : ∀ x, x ∈ t → x < 128) (hl : t.length ≤ 1000) (h0 : gi μ 1 1 = 0) : ∃ μ', f_put t μ = some μ' ∧ Sx (gi μ' 2) t.length 0 t ∧ (∃ m, gi μ' 1 1 = nI m ∧ t.length ≤ m ∧ m < 2 ^ 31) ∧ (∀ k i, (k ≠ 1 ∨ i ≠ 1) → k ≠ 2 → gi μ' k i = gi μ k i) ∧ μ'.2 = μ.2 := by
  have hp : ∀ q, (padt t).getD q 0 < 128 := fun q => by
    by_cases c : q < (padt t).length
    · have := getD_m c
      unfold padt at this
      rcases List.mem_append.mp this with w | w
      · exact h _ w
      · have e := (List.mem_replicate.mp w).2
        show (t ++ List.replicate (padn t.length) 32).getD q 0 < 128
        omega
    · rw [List.getD_eq_getElem?_getD, List.getElem?_eq_none (by omega)]
      decide
  have hlen := padt_len (t := t)
  have h20 := padt_20 (t := t)
  have hpn := padn_lt (n := t.length)
  have hd : 20 * ((padt t).length / 20) = (padt t).length := by omega
  obtain ⟨μ', e, H1, H2, H3, H4⟩ := rows hp (μ0 := μ) ((padt t).length / 20) 0 μ (by omega) ⟨h0, fun q hq => absurd hq (Nat.not_lt_zero q), fun _ _ _ _ => rfl, rfl⟩
  rw [Nat.zero_add, hd] at H1 H2
  refine ⟨μ', e, ⟨Nat.zero_add _, fun i hi => ?_⟩, ⟨_, H1, by omega, by omega⟩, H3, H4⟩
  rw [Nat.zero_add, H2 i (by omega)]
  unfold padt
  rw [List.getD_eq_getElem?_getD, List.getD_eq_getElem?_getD, List.getElem?_append_left hi]
end PUT

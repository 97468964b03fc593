/-! heights that are carried -/
theorem i32_add {x y : Int32} (h : -2147483648 ≤ x.toInt + y.toInt ∧ x.toInt + y.toInt < 2147483648) : (x + y).toInt = x.toInt + y.toInt := by rw [Int32.toInt_add, Int.bmod_eq_of_le (by omega) (by omega)]
theorem i32_sub {x y : Int32} (h : -2147483648 ≤ x.toInt - y.toInt ∧ x.toInt - y.toInt < 2147483648) : (x - y).toInt = x.toInt - y.toInt := by rw [Int32.toInt_sub, Int.bmod_eq_of_le (by omega) (by omega)]
theorem i32_mul {x y : Int32} (h : -2147483648 ≤ x.toInt * y.toInt ∧ x.toInt * y.toInt < 2147483648) : (x * y).toInt = x.toInt * y.toInt := by rw [Int32.toInt_mul, Int.bmod_eq_of_le (by omega) (by omega)]
theorem i32_neg {x : Int32} (h : -2147483648 < x.toInt) : (-x).toInt = -x.toInt := by
  have := Int32.toInt_lt x
  rw [Int32.toInt_neg, Int.bmod_eq_of_le (by omega) (by omega)]
theorem i64_add {x y : Int64} (h : -9223372036854775808 ≤ x.toInt + y.toInt ∧ x.toInt + y.toInt < 9223372036854775808) : (x + y).toInt = x.toInt + y.toInt := by rw [Int64.toInt_add, Int.bmod_eq_of_le (by omega) (by omega)]
theorem i64_sub {x y : Int64} (h : -9223372036854775808 ≤ x.toInt - y.toInt ∧ x.toInt - y.toInt < 9223372036854775808) : (x - y).toInt = x.toInt - y.toInt := by rw [Int64.toInt_sub, Int.bmod_eq_of_le (by omega) (by omega)]
theorem i64_mul {x y : Int64} (h : -9223372036854775808 ≤ x.toInt * y.toInt ∧ x.toInt * y.toInt < 9223372036854775808) : (x * y).toInt = x.toInt * y.toInt := by rw [Int64.toInt_mul, Int.bmod_eq_of_le (by omega) (by omega)]
theorem mul_bnd {a b A B : Int} (ha : -A ≤ a ∧ a ≤ A) (hb : -B ≤ b ∧ b ≤ B) : -(A * B) ≤ a * b ∧ a * b ≤ A * B := by
  have hA : 0 ≤ A := by omega
  have hB9 : 0 ≤ B := by omega
  have h1 : 0 ≤ (A - a) * (B + b) := Int.mul_nonneg (by omega) (by omega)
  have h2 : 0 ≤ (A + a) * (B - b) := Int.mul_nonneg (by omega) (by omega)
  have h3 : 0 ≤ (A - a) * (B - b) := Int.mul_nonneg (by omega) (by omega)
  have h4 : 0 ≤ (A + a) * (B + b) := Int.mul_nonneg (by omega) (by omega)
  rw [Int.sub_mul, Int.mul_add, Int.mul_add] at h1
  rw [Int.add_mul, Int.mul_sub, Int.mul_sub] at h2
  rw [Int.sub_mul, Int.mul_sub, Int.mul_sub] at h3
  rw [Int.add_mul, Int.mul_add, Int.mul_add] at h4
  constructor <;> omega
section RB
variable {v : Nat → Nat → Int32}
theorem stp_b (C : CI v) {k : Nat} (hk : k < nN v) {s : Nat} (hs : s < ct v k) : -4100000 ≤ (stp v k s).toInt ∧ (stp v k s).toInt ≤ 4100000 := by
  have hl := C.line hk
  obtain ⟨⟨a1, a2⟩, ⟨b1, b2⟩, ⟨c1, c2⟩, ⟨d1, d2⟩⟩ := hl.2.2.2.2.2.2.2.2.2.2 s hs
  have hv := C.2.2.2.1 _ hl.2.2.2.2.2.2.1
  have h100 : (100 : Int32).toInt = 100 := by decide
  unfold stp
  rw [Nat.add_zero]
  generalize v 10 (32 * k + 4 * s) = a at *
  generalize v 10 (32 * k + 4 * s + 1) = b at *
  generalize v 10 (32 * k + 4 * s + 2) = c at *
  generalize v 10 (32 * k + 4 * s + 3) = d at *
  generalize v 3 (lv v k) = w at *
  have e1 : (a - b).toInt = a.toInt - b.toInt := i32_sub (by omega)
  have e2 : (c - d).toInt = c.toInt - d.toInt := i32_sub (by omega)
  have e3 : ((100 : Int32) * (a - b)).toInt = 100 * (a.toInt - b.toInt) := by rw [i32_mul (by rw [h100, e1]; omega), h100, e1]
  have m := mul_bnd (a := w.toInt) (b := c.toInt - d.toInt) (A := 200) (B := 99) ⟨by omega, by omega⟩ ⟨by omega, by omega⟩
  have e4 : (w * (c - d)).toInt = w.toInt * (c.toInt - d.toInt) := by rw [i32_mul (by rw [e2]; omega), e2]
  rw [i32_sub (by rw [e3, e4]; omega), e3, e4]
  omega
theorem rsm_b (C : CI v) {k : Nat} (hk : k < nN v) : ∀ s, s ≤ ct v k → -(4100000 * (s : Int)) ≤ (rsm v k s).toInt ∧ (rsm v k s).toInt ≤ 4100000 * (s : Int)
  | 0, _ => by
    have : (rsm v k 0).toInt = 0 := by show ((0 : Int32)).toInt = 0; decide
    omega
  | s + 1, h => by
    have h1 := rsm_b C hk s (by omega)
    have h2 := stp_b C hk (s := s) (by omega)
    have hc := (C.line hk).cnt
    have e : (rsm v k (s + 1)).toInt = (rsm v k s).toInt + (stp v k s).toInt := by
      show (rsm v k s + stp v k s).toInt = _
      exact i32_add (by omega)
    rw [e]
    omega
theorem ris_b (C : CI v) {k : Nat} (hk : k < nN v) : -32800000 ≤ (ris v k).toInt ∧ (ris v k).toInt ≤ 32800000 := by
  have h := rsm_b C hk (ct v k) (Nat.le_refl _)
  have hc := (C.line hk).cnt
  have e : ris v k = rsm v k (ct v k) := rfl
  rw [e]
  omega
def rfr (v : Nat → Nat → Int32) (p k : Nat) : Int32 := if fs v k = p then ris v k else - ris v k
theorem rfr_b (C : CI v) {k : Nat} (hk : k < nN v) (p : Nat) : -32800000 ≤ (rfr v p k).toInt ∧ (rfr v p k).toInt ≤ 32800000 := by
  have h := ris_b C hk
  unfold rfr
  split
  · exact h
  · rw [i32_neg (by omega)]; omega
abbrev HS : Type := BS (Nat → Int64)
def hvis (v : Nat → Nat → Int32) (p k : Nat) (X : Nat → Int64) : Nat → Int64 := uN X (brO (fs v) (sn v) k p) (X p + (rfr v p k).toInt64)
def hci (v : Nat → Nat → Int32) : Nat → HS
  | 0 => (fun _ => false, fun _ => 0, 0, fun _ => noH)
  | p + 1 => if v 5 p = -1 then hci v p else (uN (hci v p).1 p true, uN (hci v p).2.1 (hci v p).2.2.1 p, (hci v p).2.2.1 + 1, uN (hci v p).2.2.2 p ((100 : Int64) * (v 5 p).toInt64))
def hbs (v : Nat → Nat → Int32) (t : Nat) : HS := bs3 (fs v) (sn v) (nA v) (hvis v) (nN v) (hci v (nP v)) t
/-- the heights that are carried -/
def pv (v : Nat → Nat → Int32) : Nat → Int64 := (hbs v 16).2.2.2
theorem CI.g (C : CI v) : ∀ k, k < nN v → fs v k < nP v ∧ sn v k < nP v := fun k hk => ⟨(C.line hk).2.2.1, (C.line hk).2.2.2.1⟩
def HX (v : Nat → Nat → Int32) (S : HS) : Prop := (∀ p, S.1 p = false → S.2.2.2 p = noH) ∧ ∀ p, S.1 p = true → p < nP v ∧ -(1000000000 + 40000000 * (S.2.2.1 : Int)) ≤ (S.2.2.2 p).toInt ∧ (S.2.2.2 p).toInt ≤ 1000000000 + 40000000 * (S.2.2.1 : Int)
theorem hci_I (C : CI v) : ∀ i, i ≤ nP v → BI (nP v) (fun _ => false) (hci v i) ∧ HX v (hci v i) ∧ (∀ p, (hci v i).1 p = true ↔ p < i ∧ v 5 p ≠ -1) ∧ (hci v i).2.2.1 ≤ i
  | 0, _ => by
    refine ⟨⟨?_, ?_, ?_, ?_⟩, ⟨fun _ _ => rfl, ?_⟩, ?_, Nat.le_refl _⟩
    · show 0 + cntB _ _ = cntB _ _
      rw [Nat.zero_add]; rfl
    · exact fun j hj => absurd hj (Nat.not_lt_zero _)
    · exact fun p h => Or.inl h
    · exact fun p h => h
    · exact fun p h => absurd h (by show ¬ (false = true); decide)
    · intro p
      exact ⟨fun h => absurd h (by show ¬ (false = true); decide), fun h => absurd h.1 (Nat.not_lt_zero _)⟩
  | i + 1, hi => by
    obtain ⟨I, X, K, c⟩ := hci_I C i (by omega)
    show BI _ _ (if v 5 i = -1 then _ else _) ∧ HX v (if v 5 i = -1 then _ else _) ∧ (∀ p, (if v 5 i = -1 then hci v i else _).1 p = true ↔ _) ∧ (if v 5 i = -1 then hci v i else _).2.2.1 ≤ _
    by_cases e : v 5 i = -1
    · rw [if_pos e]
      refine ⟨I, X, fun p => (K p).trans ⟨fun h => ⟨by omega, h.2⟩, fun h => ⟨?_, h.2⟩⟩, by omega⟩
      have : p ≠ i := fun q => h.2 (q ▸ e)
      omega
    · rw [if_neg e]
      have hm : (hci v i).1 i = false := by
        cases q : (hci v i).1 i with
        | false => rfl
        | true => exact absurd ((K i).mp q).1 (Nat.lt_irrefl _)
      have hh : 0 ≤ (v 5 i).toInt ∧ (v 5 i).toInt ≤ 9999999 := (C.2.2.2.2.1 i (by omega)).resolve_left e
      have e64 : ((100 : Int64) * (v 5 i).toInt64).toInt = 100 * (v 5 i).toInt := by
        have h100 : (100 : Int64).toInt = 100 := by decide
        rw [i64_mul (by rw [h100, Int32.toInt_toInt64]; omega), h100, Int32.toInt_toInt64]
      refine ⟨⟨?_, ?_, ?_, ?_⟩, ⟨?_, ?_⟩, ?_, ?_⟩
      · show (hci v i).2.2.1 + 1 + _ = cntB (uN _ _ _) _
        rw [cntB_up hm (by omega), ← I.1]; omega
      · intro j hj
        show uN (hci v i).2.1 (hci v i).2.2.1 i j < nP v ∧ uN (hci v i).1 i true (uN (hci v i).2.1 (hci v i).2.2.1 i j) = true
        by_cases q : j = (hci v i).2.2.1
        · rw [q, uN_s, uN_s]; exact ⟨by omega, rfl⟩
        · rw [uN_n q]
          have h2 := I.2.1 j (by have : j < (hci v i).2.2.1 + 1 := hj; omega)
          refine ⟨h2.1, ?_⟩
          by_cases q2 : (hci v i).2.1 j = i
          · rw [q2]; exact uN_s
          · rw [uN_n q2]; exact h2.2
      · intro p hp
        by_cases q : p = i
        · exact Or.inr ⟨(hci v i).2.2.1, Nat.lt_succ_self _, by rw [q]; exact uN_s⟩
        · have hq2 : uN (hci v i).1 i true p = true := hp
          rw [uN_n q] at hq2
          rcases I.2.2.1 p hq2 with h3 | ⟨j, hj, h3⟩
          · exact Or.inl h3
          · exact Or.inr ⟨j, Nat.lt_succ_of_lt hj, by rw [← h3]; exact uN_n (by omega)⟩
      · exact fun p h => absurd (show false = true from h) (by decide)
      · intro p hp
        have hp2 : uN (hci v i).1 i true p = false := hp
        show uN (hci v i).2.2.2 i _ p = noH
        by_cases q : p = i
        · rw [q, uN_s] at hp2; cases hp2
        · rw [uN_n q] at hp2 ⊢; exact X.1 p hp2
      · intro p hp
        have hp2 : uN (hci v i).1 i true p = true := hp
        show p < nP v ∧ -(1000000000 + 40000000 * (((hci v i).2.2.1 + 1 : Nat) : Int)) ≤ (uN (hci v i).2.2.2 i ((100 : Int64) * (v 5 i).toInt64) p).toInt ∧ (uN (hci v i).2.2.2 i ((100 : Int64) * (v 5 i).toInt64) p).toInt ≤ 1000000000 + 40000000 * (((hci v i).2.2.1 + 1 : Nat) : Int)
        by_cases q : p = i
        · rw [q, uN_s, e64]; exact ⟨by omega, by omega, by omega⟩
        · rw [uN_n q] at hp2 ⊢
          have := X.2 p hp2
          exact ⟨this.1, by omega, by omega⟩
      · intro p
        show uN (hci v i).1 i true p = true ↔ _
        by_cases q : p = i
        · rw [q, uN_s]; exact ⟨fun _ => ⟨by omega, e⟩, fun _ => rfl⟩
        · rw [uN_n q]
          exact (K p).trans ⟨fun h => ⟨by omega, h.2⟩, fun h => ⟨by omega, h.2⟩⟩
      · show (hci v i).2.2.1 + 1 ≤ i + 1
        omega
theorem hbs_I (C : CI v) (t : Nat) : BI (nP v) (fun _ => false) (hbs v t) := bs3_I C.g (hci_I C _ (Nat.le_refl _)).1 t
theorem noH_ne {x : Int64} (h : -9223372036854775808 < x.toInt) : x ≠ noH := fun e => by
  have h9 : noH.toInt = -9223372036854775808 := by decide
  rw [e, h9] at h
  omega
theorem HX_step (C : CI v) {T : HS} {p k : Nat} (I : BI (nP v) (fun _ => false) T) (hx : HX v T) (hk : k < nN v) (hp : T.1 p = true) (ho : T.1 (brO (fs v) (sn v) k p) = false) : HX v (uN T.1 (brO (fs v) (sn v) k p) true, uN T.2.1 T.2.2.1 (brO (fs v) (sn v) k p), T.2.2.1 + 1, hvis v p k T.2.2.2) := by
  have hr := rfr_b C hk p
  have hb := C.b
  have hc := I.c
  have hol := brO_lt (p := p) (C.g k hk)
  have hxp := hx.2 p hp
  have e : (T.2.2.2 p + (rfr v p k).toInt64).toInt = (T.2.2.2 p).toInt + (rfr v p k).toInt := by
    rw [i64_add (by rw [Int32.toInt_toInt64]; omega), Int32.toInt_toInt64]
  refine ⟨fun q hq => ?_, fun q hq => ?_⟩
  · have hq2 : uN T.1 (brO (fs v) (sn v) k p) true q = false := hq
    show uN T.2.2.2 _ _ q = noH
    by_cases c : q = brO (fs v) (sn v) k p
    · rw [c, uN_s] at hq2; cases hq2
    · rw [uN_n c] at hq2 ⊢; exact hx.1 q hq2
  · have hq2 : uN T.1 (brO (fs v) (sn v) k p) true q = true := hq
    show q < nP v ∧ -(1000000000 + 40000000 * ((T.2.2.1 + 1 : Nat) : Int)) ≤ (uN T.2.2.2 (brO (fs v) (sn v) k p) (T.2.2.2 p + (rfr v p k).toInt64) q).toInt ∧ (uN T.2.2.2 (brO (fs v) (sn v) k p) (T.2.2.2 p + (rfr v p k).toInt64) q).toInt ≤ 1000000000 + 40000000 * ((T.2.2.1 + 1 : Nat) : Int)
    by_cases c : q = brO (fs v) (sn v) k p
    · rw [c, uN_s, e]; exact ⟨hol, by omega, by omega⟩
    · rw [uN_n c] at hq2 ⊢
      have := hx.2 q hq2
      exact ⟨this.1, by omega, by omega⟩
theorem hbs_X (C : CI v) (t : Nat) : HX v (hbs v t) := bs3_keep (HX v) C.g (hci_I C _ (Nat.le_refl _)).1 (fun T p k I hx hk hp hpm ht ho => HX_step C I hx hk hpm ho) (hci_I C _ (Nat.le_refl _)).2.1 t
theorem HX.m {S : HS} (hx : HX v S) (hc : S.2.2.1 ≤ 16) (p : Nat) : (S.2.2.2 p = noH) ↔ S.1 p = false := by
  refine ⟨fun h => ?_, hx.1 p⟩
  cases e : S.1 p with
  | false => rfl
  | true => exact absurd h (noH_ne (by have := hx.2 p e; omega))
theorem rch_cl (k : Nat) (hk : k < nN v) (hA : (nA v).testBit k = true) : (∃ n, rch v n (fs v k)) ↔ ∃ n, rch v n (sn v k) :=
  ⟨fun ⟨n, h⟩ => ⟨n + 1, Or.inr ⟨k, hk, hA, Or.inr ⟨rfl, h⟩⟩⟩, fun ⟨n, h⟩ => ⟨n + 1, Or.inr ⟨k, hk, hA, Or.inl ⟨rfl, h⟩⟩⟩⟩
theorem pv_m (C : CI v) (p : Nat) : pv v p = noH ↔ (hbs v 16).1 p = false := (hbs_X C 16).m (by have := (hbs_I C 16).c; have := C.b; omega) p
theorem hbs_s (t : Nat) : hbs v (t + 1) = if t < (hbs v t).2.2.1 then bs2 (fs v) (sn v) (nA v) (hvis v) ((hbs v t).2.1 t) (hbs v t) (nN v) else hbs v t := rfl
theorem hbs_le (t : Nat) : BLe (hci v (nP v)) (hbs v t) := bs3_le (f := fs v) (s := sn v) (A := nA v) (vis := hvis v) (m := nN v) (hci v (nP v)) t
theorem hbs_cl (C : CI v) {N : Nat} (hN : nP v ≤ N) : ∀ k, k < nN v → (nA v).testBit k = true → (hbs v N).1 (fs v k) = (hbs v N).1 (sn v k) := bs3_closed C.g (hci_I C _ (Nat.le_refl _)).1 (fun _ _ _ => rfl) hN
theorem hbs_ls (C : CI v) {Q : Nat → Prop} (hC : ∀ k, k < nN v → (nA v).testBit k = true → (Q (fs v k) ↔ Q (sn v k))) (h0 : ∀ p, (hci v (nP v)).1 p = true → Q p) (t p : Nat) : (hbs v t).1 p = true → Q p := bs3_least hC C.g (hci_I C _ (Nat.le_refl _)).1 h0 t p
theorem hbs_st (C : CI v) {t N : Nat} (ht : (hbs v t).2.2.1 ≤ t) (hn : t ≤ nP v) (hN : nP v ≤ N) : hbs v N = hbs v t := bs3_end C.g (hci_I C _ (Nat.le_refl _)).1 ht hn hN
theorem pv_rch (C : CI v) (p : Nat) : pv v p = noH ↔ ¬ ∃ n, rch v n p := by
  have hb := C.b
  have H0 := hci_I C (nP v) (Nat.le_refl _)
  have cl := hbs_cl C (show nP v ≤ 16 by omega)
  have le := hbs_le (v := v) 16
  have ls := hbs_ls C (Q := fun p => ∃ n, rch v n p) rch_cl (fun q hq => ⟨0, (H0.2.2.1 q).mp hq⟩) 16 p
  rw [pv_m C]
  generalize hbs v 16 = S at *
  constructor
  · intro h ⟨n, hn⟩
    have key : ∀ n p, rch v n p → S.1 p = true := by
      intro n
      induction n with
      | zero => exact fun p h => le.2.2 p ((H0.2.2.1 p).mpr h)
      | succ n ih =>
        intro p h
        rcases h with h | ⟨k, hk, hA, h⟩
        · exact ih p h
        · have cl := cl k hk hA
          rcases h with ⟨e, h⟩ | ⟨e, h⟩
          · rw [← e]; exact cl.trans (ih _ h)
          · rw [← e]; exact cl.symm.trans (ih _ h)
    rw [key n p hn] at h
    cases h
  · intro h
    cases e : S.1 p with
    | false => rfl
    | true => exact absurd (ls e) h
theorem pv_b (C : CI v) {p : Nat} (h : pv v p ≠ noH) : -2000000000 ≤ (pv v p).toInt ∧ (pv v p).toInt ≤ 2000000000 := by
  have hb := C.b
  have hc := (hbs_I C 16).c
  cases e : (hbs v 16).1 p with
  | false => exact absurd ((pv_m C p).mpr e) h
  | true =>
    have := (hbs_X C 16).2 p e
    unfold pv
    omega
end RB
/-- memory at a holds the heights, at q the queue -/
def HR (v : Nat → Nat → Int32) (a q i : Nat) (S : HS) (μ : gM) : Prop := (∀ p, p < i → gl μ a p = S.2.2.2 p) ∧ ∀ j, j < S.2.2.1 → gi μ q j = nI (S.2.1 j)
abbrev Fq (μ ν : gM) : Prop := Fr μ ν ∧ gi ν 60 6 = gi μ 60 6
theorem Fq.tr {μ ν ρ : gM} (h : Fq μ ν) (g : Fq ν ρ) : Fq μ ρ := ⟨h.1.tr g.1, g.2.trans h.2⟩
theorem HR_step {v : Nat → Nat → Int32} {a q i o : Nat} {S : HS} {μ : gM} {x : Int64} (h : HR v a q i S μ) : HR v a q i (uN S.1 o true, uN S.2.1 S.2.2.1 o, S.2.2.1 + 1, uN S.2.2.2 o x) (si (sl μ a o x) q S.2.2.1 (nI o)) := by
  refine ⟨fun p hp => ?_, fun j hj => ?_⟩
  · show gl (si (sl μ a o x) q S.2.2.1 (nI o)) a p = uN S.2.2.2 o x p
    rw [gl_si, gl_sl]
    by_cases c : p = o
    · rw [if_pos ⟨rfl, c⟩, c, uN_s]
    · rw [if_neg (fun w => c w.2), uN_n c]; exact h.1 p hp
  · show gi (si (sl μ a o x) q S.2.2.1 (nI o)) q j = nI (uN S.2.1 S.2.2.1 o j)
    by_cases c : j = S.2.2.1
    · rw [c, uN_s, gi_sii]
    · rw [uN_n c, gi_sij c, gi_sl]
      exact h.2 j (by have : j < S.2.2.1 + 1 := hj; omega)
theorem m1_ne {n : Nat} (h : n < 2 ^ 31) : ¬ nI n = -1 := fun q => by
  have h1 : (nI n).toInt = (-1 : Int32).toInt := congrArg _ q
  rw [nI_toInt h] at h1
  have h2 : (-1 : Int32).toInt = -1 := by decide
  omega
section CC
variable {v : Nat → Nat → Int32} {μ : gM}
theorem c_acr (C : CO v μ) {k : Nat} (hk : k < nN v) {A p : Nat} (hA : A < 2 ^ 31) (hp : p < 2 ^ 31) : f_X3_across (nI A) (nI k) (nI p) μ = some (if brT (fs v) (sn v) A k p then nI (brO (fs v) (sn v) k p) else -1) := by
  rw [c_across C hk hA hp]
  unfold brO
  by_cases a : A.testBit k = true
  · by_cases c : fs v k = p
    · rw [if_pos ⟨a, c⟩, if_pos ⟨a, Or.inl c⟩, if_pos c]
    · rw [if_neg (fun q => c q.2)]
      by_cases d : sn v k = p
      · rw [if_pos ⟨a, d⟩, if_pos ⟨a, Or.inr d⟩, if_neg c]
      · rw [if_neg (fun q => d q.2), if_neg (fun q => q.2.elim c d)]
  · rw [if_neg (fun q => a q.1), if_neg (fun q => a q.1), if_neg (fun q => a q.1)]
theorem c_carry (C : CO v μ) : ∃ ν, f_X0_carry μ = some ν ∧ Fr μ ν ∧ ∀ p, p < nP v → gl ν 21 p = pv v p := by
  have hb := C.1.b
  have H0 := hci_I C.1
  obtain ⟨r, h1, c1, F1, R1⟩ := gloop_rel (body := fun t => b_X0_carry_4 t.1 t.2.1 t.2.2) (fun i t => i ≤ nP v ∧ t.1 = nI (hci v i).2.2.1 ∧ t.2.1 = nI i ∧ Fr μ t.2.2 ∧ HR v 21 23 i (hci v i) t.2.2) (fun r => r.1 = nI (hci v (nP v)).2.2.1 ∧ Fr μ r.2 ∧ HR v 21 23 (nP v) (hci v (nP v)) r.2) (nP v) (fun i t hi hR => by
    obtain ⟨x, y, ν⟩ := t
    obtain ⟨-, e1, e2, F, R⟩ := hR
    have e1 : x = nI (hci v i).2.2.1 := e1
    have e2 : y = nI i := e2
    subst e1 e2
    replace F : Fr μ ν := F
    replace R : HR _ _ _ _ _ ν := R
    have D := C.fr F
    show (∃ t, b_X0_carry_4 (nI (hci v i).2.2.1) (nI i) ν = _ ∧ _) ∨ ∃ r, b_X0_carry_4 _ _ ν = _ ∧ _
    unfold b_X0_carry_4
    rw [D.P]
    by_cases c : i < nP v
    · left
      have hcn := (H0 i hi).2.2.2
      rw [if_neg (nI_ge c (by omega))]
      simp (disch := omega) only [gck, nI_clamp, nI_1]
      have e5 : gi (sl ν 21 i (-9223372036854775808)) 39 i = v 5 i := (C.fr F).at 5 i (by decide)
      rw [e5]
      have hm : (hci v i).1 i = false := by
        cases q : (hci v i).1 i with
        | false => rfl
        | true => exact absurd (((H0 i hi).2.2.1 i).mp q).1 (Nat.lt_irrefl _)
      by_cases e : v 5 i = -1
      · refine ⟨_, if_pos e, ⟨by omega, ?_, rfl, F.sl rfl, ?_, ?_⟩, c⟩
        · show nI _ = nI (hci v (i + 1)).2.2.1
          rw [show hci v (i + 1) = hci v i from if_pos e]
        · intro p hp
          show gl (sl ν 21 i _) 21 p = (hci v (i + 1)).2.2.2 p
          rw [show hci v (i + 1) = hci v i from if_pos e, gl_sl]
          by_cases q : p = i
          · rw [if_pos ⟨rfl, q⟩, q, (H0 i hi).2.1.1 i hm]
          · rw [if_neg (fun w => q w.2)]; exact R.1 p (by omega)
        · rw [show hci v (i + 1) = hci v i from if_pos e]; exact R.2
      · refine ⟨_, if_neg e, ⟨by omega, ?_, rfl, ((F.sl rfl).sl rfl).si rfl, ?_⟩, c⟩
        · rw [show hci v (i + 1) = _ from if_neg e]
        · rw [show hci v (i + 1) = _ from if_neg e]
          refine ⟨fun p hp => ?_, (HR_step (v := v) (x := (100 : Int64) * (v 5 i).toInt64) (o := i) (μ := sl ν 21 i (-9223372036854775808)) (i := i) ⟨fun p hp => (gl_sl.trans (if_neg (fun w => by omega))).trans (R.1 p hp), R.2⟩).2⟩
          show gl (si (sl (sl ν 21 i _) 21 i _) 23 _ _) 21 p = uN (hci v i).2.2.2 i _ p
          rw [gl_si, gl_sl]
          by_cases q : p = i
          · rw [if_pos ⟨rfl, q⟩, q, uN_s]
          · rw [if_neg (fun w => q w.2), uN_n q, gl_sl, if_neg (fun w => q w.2)]
            exact R.1 p (by omega)
    · right
      have : i = nP v := by omega
      subst this
      exact ⟨_, if_pos (nI_le (Nat.le_refl _) (by omega)), rfl, F, R⟩) (by unfold gFuel; omega) (s0 := (nI 0, nI 0, μ)) ⟨by omega, rfl, rfl, Fr.rf μ, fun p hp => absurd hp (by omega), fun j hj => absurd hj (Nat.not_lt_zero _)⟩
  obtain ⟨x, ν1⟩ := r
  have c1 : x = nI (hci v (nP v)).2.2.1 := c1
  subst c1
  obtain ⟨ν, h2, F2, R2⟩ := gloop_rel (body := fun t => b_X0_carry_66 t.1 t.2.1 t.2.2) (fun i t => i ≤ nP v ∧ t.1 = nI (hbs v i).2.2.1 ∧ t.2.1 = nI i ∧ Fr μ t.2.2 ∧ HR v 21 23 (nP v) (hbs v i) t.2.2) (fun r => Fr μ r ∧ ∀ p, p < nP v → gl r 21 p = pv v p) (nP v) (fun i t hi hR => by
    obtain ⟨x, y, ν⟩ := t
    obtain ⟨-, e1, e2, F, R⟩ := hR
    have e1 : x = nI (hbs v i).2.2.1 := e1
    have e2 : y = nI i := e2
    subst e1 e2
    replace F : Fr μ ν := F
    replace R : HR _ _ _ _ _ ν := R
    have D := C.fr F
    have I := hbs_I C.1 i
    have hcc := I.c
    have stop : (hbs v i).2.2.1 ≤ i → ∀ p, p < nP v → gl ν 21 p = pv v p := fun hs p hp => by
      unfold pv
      rw [hbs_st C.1 (N := 16) hs hi (by omega)]
      exact R.1 p hp
    show (∃ t, b_X0_carry_66 (nI (hbs v i).2.2.1) (nI i) ν = _ ∧ _) ∨ ∃ r, b_X0_carry_66 _ _ ν = _ ∧ _
    unfold b_X0_carry_66
    rw [D.P]
    by_cases c : i < nP v
    · rw [if_neg (nI_ge c (by omega))]
      by_cases d : (hbs v i).2.2.1 ≤ i
      · right
        exact ⟨_, if_pos (nI_le d (by omega)), F, stop d⟩
      · left
        rw [if_neg (nI_ge (by omega) (by omega)), gck (by omega) (by decide), nI_clamp (by omega), R.2 i (by omega)]
        have hq := I.2.1 i (by omega)
        obtain ⟨p, hp⟩ : ∃ p, p = (hbs v i).2.1 i := ⟨_, rfl⟩
        rw [← hp] at hq ⊢
        have G : ∃ r, gloop (fun t => b_X0_carry_90 (nI i) (nI p) t.1 t.2.1 t.2.2) gFuel (nI (hbs v i).2.2.1, nI 0, ν) = some r ∧ (r.1 = nI (hbs v (i + 1)).2.2.1 ∧ Fr μ r.2 ∧ HR v 21 23 (nP v) (hbs v (i + 1)) r.2) := by
          have es : hbs v (i + 1) = bs2 (fs v) (sn v) (nA v) (hvis v) p (hbs v i) (nN v) := by
            rw [hbs_s, if_pos (by omega), ← hp]
          refine gloop_rel (σ := Int32 × Int32 × gM) (fun k t => t.1 = nI (bs2 (fs v) (sn v) (nA v) (hvis v) p (hbs v i) k).2.2.1 ∧ t.2.1 = nI k ∧ Fr μ t.2.2 ∧ HR v 21 23 (nP v) (bs2 (fs v) (sn v) (nA v) (hvis v) p (hbs v i) k) t.2.2 ∧ HX v (bs2 (fs v) (sn v) (nA v) (hvis v) p (hbs v i) k)) _ (nN v) (fun k t hk hR => ?_) (by unfold gFuel; omega) ⟨rfl, rfl, F, R, hbs_X C.1 i⟩
          obtain ⟨x, y, ν⟩ := t
          obtain ⟨e1, e2, F, R, X⟩ := hR
          have e1 : x = nI (bs2 (fs v) (sn v) (nA v) (hvis v) p (hbs v i) k).2.2.1 := e1
          have e2 : y = nI k := e2
          subst e1 e2
          replace F : Fr μ ν := F
          replace R : HR _ _ _ _ _ ν := R
          have D := C.fr F
          have I2 := bs2_I (A := nA v) (vis := hvis v) (p := p) C.1.g I k hk
          have hpm := (bs2_le (f := fs v) (s := sn v) (A := nA v) (vis := hvis v) p (hbs v i) k).2.2 p hq.2
          obtain ⟨T, hT⟩ : ∃ T, T = bs2 (fs v) (sn v) (nA v) (hvis v) p (hbs v i) k := ⟨_, rfl⟩
          have hc2 := I2.c
          rw [← hT] at R X I2 hpm hc2 ⊢
          show (∃ t, b_X0_carry_90 (nI i) (nI p) (nI T.2.2.1) (nI k) ν = _ ∧ _) ∨ ∃ r, b_X0_carry_90 _ _ _ _ ν = _ ∧ _
          unfold b_X0_carry_90
          rw [D.N]
          by_cases c2 : k < nN v
          · left
            rw [if_neg (nI_ge c2 (by omega)), D.A, c_acr D c2 C.1.A31 (by omega), Option.bind_some, nI_1]
            have s1 : bs2 (fs v) (sn v) (nA v) (hvis v) p (hbs v i) (k + 1) = bs1 (fs v) (sn v) (nA v) (hvis v) p k T := by rw [hT]; rfl
            have ho := brO_lt (p := p) (C.1.g k c2)
            rw [s1]
            unfold bs1
            by_cases t1 : brT (fs v) (sn v) (nA v) k p
            · rw [if_pos t1, if_neg (m1_ne (by omega)), c_riseFrom D c2 (by omega), Option.bind_some]
              by_cases t2 : T.1 (brO (fs v) (sn v) k p) = false
              · have room := I2.room ho t2
                have tt : brT (fs v) (sn v) (nA v) k p ∧ T.1 (brO (fs v) (sn v) k p) = false := ⟨t1, t2⟩
                simp (disch := omega) only [gck, nI_clamp, nI_1]
                rw [R.1 _ ho, R.1 p (by omega), if_pos ((X.m (by omega) _).mpr t2), if_neg (show ¬ (16 : Int32) ≤ nI T.2.2.1 from nI_ge (b := 16) (by omega) (by decide)), if_pos tt]
                exact ⟨_, rfl, ⟨rfl, rfl, (F.sl rfl).si rfl, HR_step (x := T.2.2.2 p + (rfr v p k).toInt64) R, HX_step C.1 I2 X c2 hpm t2⟩, c2⟩
              · simp (disch := omega) only [gck, nI_clamp, nI_1]
                rw [R.1 _ ho, if_neg (fun w => t2 ((X.m (by omega) _).mp w)), if_neg (show ¬ (brT (fs v) (sn v) (nA v) k p ∧ T.1 (brO (fs v) (sn v) k p) = false) from fun w => t2 w.2)]
                exact ⟨_, rfl, ⟨rfl, rfl, F, R, X⟩, c2⟩
            · rw [if_neg t1, if_pos rfl, if_neg (show ¬ (brT (fs v) (sn v) (nA v) k p ∧ T.1 (brO (fs v) (sn v) k p) = false) from fun w => t1 w.1)]
              exact ⟨_, rfl, ⟨rfl, rfl, F, R, X⟩, c2⟩
          · right
            have : k = nN v := by omega
            subst this
            rw [if_pos (nI_le (Nat.le_refl _) (by omega)), es, ← hT]
            exact ⟨_, rfl, rfl, F, R⟩
        obtain ⟨⟨x, ν2⟩, h3, e3, F3, R3⟩ := G
        have e3 : x = nI (hbs v (i + 1)).2.2.1 := e3
        subst e3
        rw [show (0 : Int32) = nI 0 from rfl, h3, Option.bind_some, nI_1]
        exact ⟨_, rfl, ⟨by omega, rfl, rfl, F3, R3⟩, c⟩
    · right
      exact ⟨_, if_pos (nI_le (by omega) (by omega)), F, stop (by omega)⟩) (by unfold gFuel; omega) (s0 := (nI (hci v (nP v)).2.2.1, nI 0, ν1)) ⟨by omega, rfl, rfl, F1, R1⟩
  refine ⟨ν, ?_, F2, R2⟩
  unfold f_X0_carry
  rw [show gloop (fun t => b_X0_carry_4 t.1 t.2.1 t.2.2) gFuel ((0 : Int32), (0 : Int32), μ) = _ from h1, Option.bind_some]
  rw [show gloop (fun t => b_X0_carry_66 t.1 t.2.1 t.2.2) gFuel (nI (hci v (nP v)).2.2.1, (0 : Int32), ν1) = _ from h2]
  rfl
end CC

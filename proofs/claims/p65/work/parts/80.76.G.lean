/-! how many bits a set has -/
theorem nx_and (a b : Nat) : nI a &&& nI b = nI (a &&& b) := by
  refine Int32.toBitVec_inj.mp ?_
  show BitVec.ofNat 32 a &&& BitVec.ofNat 32 b = BitVec.ofNat 32 (a &&& b)
  refine BitVec.eq_of_getLsbD_eq (fun i hi => ?_)
  rw [BitVec.getLsbD_and, BitVec.getLsbD_ofNat, BitVec.getLsbD_ofNat, BitVec.getLsbD_ofNat, Nat.testBit_and, decide_eq_true hi, Bool.true_and, Bool.true_and, Bool.true_and]
theorem by_and {x m y n : Nat} (hx : x < 256) (hm : m < 256) : (x + 256 * y) &&& (m + 256 * n) = (x &&& m) + 256 * (y &&& n) := by
  have hxm : x &&& m < 256 := Nat.lt_of_le_of_lt Nat.and_le_left hx
  refine Nat.eq_of_testBit_eq (fun i => ?_)
  have e : ∀ a b : Nat, b < 256 → (b + 256 * a).testBit i = if i < 8 then b.testBit i else a.testBit (i - 8) := fun a b hb => by
    rw [Nat.add_comm, show 256 * a + b = 2 ^ 8 * a + b from rfl]
    exact Nat.testBit_two_pow_mul_add a hb i
  rw [Nat.testBit_and, e y x hx, e n m hm, e (y &&& n) (x &&& m) hxm]
  split
  · rw [Nat.testBit_and]
  · rw [Nat.testBit_and]
def hB9 (t : Nat) : Nat := t - ((t / 2) &&& 85)
def kB (t : Nat) : Nat := (hB9 t &&& 51) + ((hB9 t / 4) &&& 51)
def jB (t : Nat) : Nat := (kB t + kB t / 16) % 16
def pB (t : Nat) : Nat → Nat
  | 0 => 0
  | n + 1 => pB t n + (if t.testBit n then 1 else 0)
theorem B_facts : ∀ t, t < 256 → (t / 2 &&& 85) ≤ t ∧ hB9 t < 256 ∧ (hB9 t &&& 51) + ((hB9 t / 4) &&& 51) ≤ 68 ∧ kB t % 16 ≤ 4 ∧ kB t / 16 ≤ 4 ∧ jB t = pB t 8 ∧ pB t 8 ≤ 8 ∧ ((t / 2 + 128) &&& 85) = (t / 2 &&& 85) := by decide +kernel
theorem B_64 : ∀ t, t < 64 → ∀ b, b < 4 → ((t + 64 * b) &&& 51) = (t &&& 51) := by decide +kernel
def bF1 (a : Nat) : Nat := a - ((a / 2) &&& 1431655765)
def bF2 (s : Nat) : Nat := (s &&& 858993459) + ((s / 4) &&& 858993459)
def bF3 (s : Nat) : Nat := (s + s / 16) &&& 252645135
def bF4 (s : Nat) : Nat := s + s / 256
def bF5 (s : Nat) : Nat := (s + s / 65536) &&& 63
theorem J6_nI {a : Nat} (ha : a < 2 ^ 20) (μ : gM) (h1 : bF1 a < 2 ^ 20) (h2 : bF2 (bF1 a) < 2 ^ 24) (h3 : bF3 (bF2 (bF1 a)) < 2 ^ 24) (h4 : bF4 (bF3 (bF2 (bF1 a))) < 2 ^ 26) (hle : (a / 2) &&& 1431655765 ≤ a) : f_J6_bitCount_0f7a4 (nI a) μ = some (nI (bF5 (bF4 (bF3 (bF2 (bF1 a)))))) := by
  have u1 : ∀ n, n < 2 ^ 32 → ((nI n).toUInt32 >>> ((1 : Int32).toUInt32 &&& Int32.toUInt32 31)).toInt32 = nI (n / 2) := fun n h => pk_ushrN h 1 1 (by decide)
  have u2 : ∀ n, n < 2 ^ 32 → ((nI n).toUInt32 >>> ((2 : Int32).toUInt32 &&& Int32.toUInt32 31)).toInt32 = nI (n / 4) := fun n h => pk_ushrN h 2 2 (by decide)
  have u4 : ∀ n, n < 2 ^ 32 → ((nI n).toUInt32 >>> ((4 : Int32).toUInt32 &&& Int32.toUInt32 31)).toInt32 = nI (n / 16) := fun n h => pk_ushrN h 4 4 (by decide)
  have u8 : ∀ n, n < 2 ^ 32 → ((nI n).toUInt32 >>> ((8 : Int32).toUInt32 &&& Int32.toUInt32 31)).toInt32 = nI (n / 256) := fun n h => pk_ushrN h 8 8 (by decide)
  have u16 : ∀ n, n < 2 ^ 32 → ((nI n).toUInt32 >>> ((16 : Int32).toUInt32 &&& Int32.toUInt32 31)).toInt32 = nI (n / 65536) := fun n h => pk_ushrN h 16 16 (by decide)
  have m1 : (1431655765 : Int32) = nI 1431655765 := rfl
  have m2 : (858993459 : Int32) = nI 858993459 := rfl
  have m3 : (252645135 : Int32) = nI 252645135 := rfl
  have m4 : (63 : Int32) = nI 63 := rfl
  have g1 : nI a - nI ((a / 2) &&& 1431655765) = nI (bF1 a) := pk_sub hle
  unfold f_J6_bitCount_0f7a4
  rw [u1 a (by omega), m1, nx_and, g1, m2, u2 (bF1 a) (by omega), nx_and, nx_and, nI_add, show (bF1 a &&& 858993459) + (bF1 a / 4 &&& 858993459) = bF2 (bF1 a) from rfl, u4 (bF2 (bF1 a)) (by omega), nI_add, m3, nx_and, show (bF2 (bF1 a) + bF2 (bF1 a) / 16 &&& 252645135) = bF3 (bF2 (bF1 a)) from rfl, u8 (bF3 (bF2 (bF1 a))) (by omega), nI_add, show bF3 (bF2 (bF1 a)) + bF3 (bF2 (bF1 a)) / 256 = bF4 (bF3 (bF2 (bF1 a))) from rfl, u16 (bF4 (bF3 (bF2 (bF1 a)))) (by omega), nI_add, m4, nx_and]
  rfl
theorem by3 {x0 x1 x2 m0 m1 m2 : Nat} (h0 : x0 < 256) (h1 : x1 < 256) (g0 : m0 < 256) (g1 : m1 < 256) : (x0 + 256 * x1 + 65536 * x2) &&& (m0 + 256 * m1 + 65536 * m2) = (x0 &&& m0) + 256 * (x1 &&& m1) + 65536 * (x2 &&& m2) := by
  rw [show x0 + 256 * x1 + 65536 * x2 = x0 + 256 * (x1 + 256 * x2) by omega, show m0 + 256 * m1 + 65536 * m2 = m0 + 256 * (m1 + 256 * m2) by omega, by_and h0 g0, by_and h1 g1]
  omega
theorem bF_all {p q r : Nat} (hp : p < 256) (hq : q < 256) (hr : r < 16) : bF1 (p + 256 * q + 65536 * r) = hB9 p + 256 * hB9 q + 65536 * hB9 r ∧ bF2 (hB9 p + 256 * hB9 q + 65536 * hB9 r) = kB p + 256 * kB q + 65536 * kB r ∧ bF3 (kB p + 256 * kB q + 65536 * kB r) = jB p + 256 * jB q + 65536 * jB r ∧ bF4 (jB p + 256 * jB q + 65536 * jB r) = (jB p + jB q) + 256 * (jB q + jB r) + 65536 * jB r ∧ bF5 ((jB p + jB q) + 256 * (jB q + jB r) + 65536 * jB r) = jB p + jB q + jB r ∧ ((p + 256 * q + 65536 * r) / 2 &&& 1431655765) ≤ p + 256 * q + 65536 * r := by
  obtain ⟨p1, p2, p3, p4, p5, p6, p7, p8⟩ := B_facts p hp
  obtain ⟨q1, q2, q3, q4, q5, q6, q7, q8⟩ := B_facts q hq
  obtain ⟨r1, r2, r3, r4, r5, r6, r7, r8⟩ := B_facts r (by omega)
  have and85 : ∀ t b, t < 256 → b < 2 → (∀ u : Unit, ((t / 2 + 128) &&& 85) = (t / 2 &&& 85)) → ((t / 2 + 128 * b) &&& 85) = (t / 2 &&& 85) := fun t b ht hb h => by
    have : b = 0 ∨ b = 1 := by omega
    rcases this with e | e <;> subst e
    · rfl
    · exact h ()
  have e1 : ((p + 256 * q + 65536 * r) / 2 &&& 1431655765) = (p / 2 &&& 85) + 256 * (q / 2 &&& 85) + 65536 * (r / 2 &&& 85) := by
    rw [show (p + 256 * q + 65536 * r) / 2 = (p / 2 + 128 * (q % 2)) + 256 * (q / 2 + 128 * (r % 2)) + 65536 * (r / 2) by omega, show (1431655765 : Nat) = 85 + 256 * 85 + 65536 * 21845 from rfl, by3 (by omega) (by omega) (by decide) (by decide), and85 p _ hp (by omega) (fun _ => p8), and85 q _ hq (by omega) (fun _ => q8)]
    have : r / 2 &&& 21845 = r / 2 &&& 85 := by
      have h16 : ∀ r, r < 16 → (r / 2 &&& 21845) = (r / 2 &&& 85) := by decide +kernel
      exact h16 r hr
    rw [this]
  have hr16 : hB9 r < 16 := by
    have h16 : ∀ r, r < 16 → hB9 r < 16 := by decide +kernel
    exact h16 r hr
  refine ⟨?_, ?_, ?_, ?_, ?_, ?_⟩
  · unfold bF1
    rw [e1]
    unfold hB9
    omega
  · unfold bF2
    have h51 : ∀ r, r < 16 → (r &&& 13107) = (r &&& 51) := by decide +kernel
    rw [show (hB9 p + 256 * hB9 q + 65536 * hB9 r) / 4 = (hB9 p / 4 + 64 * (hB9 q % 4)) + 256 * (hB9 q / 4 + 64 * (hB9 r % 4)) + 65536 * (hB9 r / 4) by omega, show (858993459 : Nat) = 51 + 256 * 51 + 65536 * 13107 from rfl, by3 p2 q2 (by decide) (by decide), by3 (by omega) (by omega) (by decide) (by decide), B_64 _ (by omega) _ (by omega), B_64 _ (by omega) _ (by omega), h51 _ hr16, h51 _ (by omega)]
    unfold kB
    omega
  · unfold bF3
    have kp : kB p ≤ 68 := p3
    have kq : kB q ≤ 68 := q3
    have kr : kB r ≤ 68 := r3
    have a15 : ∀ x : Nat, x &&& 15 = x % 16 := fun x => Nat.and_two_pow_sub_one_eq_mod x 4
    have h15 : ∀ r, r < 73 → (r &&& 3855) = (r &&& 15) := by decide +kernel
    rw [show kB p + 256 * kB q + 65536 * kB r + (kB p + 256 * kB q + 65536 * kB r) / 16 = (kB p + kB p / 16 + 16 * (kB q % 16)) + 256 * (kB q + kB q / 16 + 16 * (kB r % 16)) + 65536 * (kB r + kB r / 16) by omega, show (252645135 : Nat) = 15 + 256 * 15 + 65536 * 3855 from rfl, by3 (by omega) (by omega) (by decide) (by decide), h15 _ (by omega), a15, a15, a15]
    unfold jB
    omega
  · unfold bF4
    omega
  · unfold bF5
    have a63 : ∀ x : Nat, x &&& 63 = x % 64 := fun x => Nat.and_two_pow_sub_one_eq_mod x 6
    have d1 : (jB p + jB q + 256 * (jB q + jB r) + 65536 * jB r) / 65536 = jB r := by omega
    rw [a63, d1]
    omega
  · rw [e1]; omega
def pcn (x : Int32) : Nat → Nat
  | 0 => 0
  | n + 1 => pcn x n + (if bt x n = true then 1 else 0)
theorem pB_s (t : Nat) : ∀ n m, pB t (n + m) = pB t n + pB (t / 2 ^ n) m
  | n, 0 => rfl
  | n, m + 1 => by
    show pB t (n + m) + (if t.testBit (n + m) = true then 1 else 0) = pB t n + (pB (t / 2 ^ n) m + (if (t / 2 ^ n).testBit m = true then 1 else 0))
    rw [pB_s t n m, Nat.testBit_div_two_pow, Nat.add_comm m n, Nat.add_assoc]
theorem pB_c {a b : Nat} : ∀ n, (∀ i, i < n → a.testBit i = b.testBit i) → pB a n = pB b n
  | 0, _ => rfl
  | n + 1, h => by
    show pB a n + _ = pB b n + _
    rw [pB_c n (fun i hi => h i (by omega)), h n (by omega)]
theorem bitc {x : Int32} (μ : gM) (h : ∀ i, i < 32 → 20 ≤ i → bt x i = false) : f_J6_bitCount_0f7a4 x μ = some (nI (pcn x 20)) := by
  obtain ⟨a, ha⟩ : ∃ a, a = x.toBitVec.toNat := ⟨_, rfl⟩
  have ha32 : a < 2 ^ 32 := by rw [ha]; exact x.toBitVec.isLt
  have hx : x = nI a := by
    refine Int32.toBitVec_inj.mp ?_
    show _ = BitVec.ofNat 32 a
    rw [ha]; simp
  have tb : ∀ i, i < 32 → bt x i = a.testBit i := fun i hi => by rw [hx]; exact b_nI ha32 hi
  have ha20 : a < 2 ^ 20 := by
    refine Nat.lt_pow_two_of_testBit a (fun i hi => ?_)
    by_cases c : i < 32
    · rw [← tb i c]; exact h i c hi
    · exact Nat.testBit_lt_two_pow (Nat.lt_of_lt_of_le ha32 (Nat.pow_le_pow_right (by decide) (by omega)))
  obtain ⟨p, q, r, hp, hq, hr, e⟩ : ∃ p q r, p < 256 ∧ q < 256 ∧ r < 16 ∧ a = p + 256 * q + 65536 * r := ⟨a % 256, a / 256 % 256, a / 65536, by omega, by omega, by omega, by omega⟩
  obtain ⟨f1, f2, f3, f4, f5, f6⟩ := bF_all hp hq hr
  obtain ⟨p1, p2, p3, p4, p5, p6, p7, p8⟩ := B_facts p hp
  obtain ⟨q1, q2, q3, q4, q5, q6, q7, q8⟩ := B_facts q hq
  obtain ⟨r1, r2, r3, r4, r5, r6, r7, r8⟩ := B_facts r (by omega)
  have hr16 : hB9 r < 16 ∧ kB r < 16 := by
    have h16 : ∀ r, r < 16 → hB9 r < 16 ∧ kB r < 16 ∨ kB r < 69 ∧ hB9 r < 16 := by decide +kernel
    have h17 : ∀ r, r < 16 → hB9 r < 16 ∧ kB r < 16 := by decide +kernel
    exact h17 r hr
  have kp : kB p ≤ 68 := p3
  have kq : kB q ≤ 68 := q3
  have cnt : pcn x 20 = jB p + jB q + jB r := by
    have c1 : ∀ n, n ≤ 32 → pcn x n = pB a n := by
      intro n
      induction n with
      | zero => exact fun _ => rfl
      | succ n ih =>
        intro hn
        show pcn x n + _ = pB a n + _
        rw [ih (by omega), tb n (by omega)]
    have r16 : ∀ r, r < 16 → pB r 4 = pB r 8 := by decide +kernel
    rw [c1 20 (by decide), pB_s a 8 12, pB_s (a / 2 ^ 8) 8 4, Nat.div_div_eq_div_mul, p6, q6, r6]
    have d1 : pB a 8 = pB p 8 := pB_c 8 (fun i hi => by
      rw [show p = a % 2 ^ 8 by omega, Nat.testBit_mod_two_pow, decide_eq_true hi, Bool.true_and])
    have d2 : pB (a / 2 ^ 8) 8 = pB q 8 := pB_c 8 (fun i hi => by
      rw [show q = a / 2 ^ 8 % 2 ^ 8 by omega, Nat.testBit_mod_two_pow, decide_eq_true hi, Bool.true_and])
    rw [d1, d2, show a / (2 ^ 8 * 2 ^ 8) = r by omega, r16 r hr]
    omega
  rw [cnt, hx, J6_nI ha20 μ (by rw [e, f1]; omega) (by rw [e, f1, f2]; omega) (by rw [e, f1, f2, f3]; omega) (by rw [e, f1, f2, f3, f4]; omega) (by rw [e]; exact f6), e, f1, f2, f3, f4, f5]

/-! tools for the two programs: numbers, loops, frames -/
theorem gchk_t {α : Type} {b : Prop} [Decidable b] {x : Option α} (h : b) : gchk b x = x := if_pos h
theorem gIn_nI {a n : Nat} (h : a < n) (hn : n < 2 ^ 31) : gIn (nI a) n := ⟨nI_pos' (by omega), by rw [nI_clamp (by omega)]; exact h⟩
theorem gchk_in {α : Type} {a n : Nat} {x : Option α} (h : a < n) (hn : n < 2 ^ 31) : gchk (gIn (nI a) n) x = x := if_pos (gIn_nI h hn)
theorem obind_s {α β : Type} {o : Option α} {f : α → Option β} {a : α} (h : o = some a) : Option.bind o f = f a := by subst h; rfl
theorem n0 : (0 : Int32) = nI 0 := rfl
theorem n1 : (1 : Int32) = nI 1 := rfl
theorem n2 : (2 : Int32) = nI 2 := rfl
theorem n3 : (3 : Int32) = nI 3 := rfl
theorem n4 : (4 : Int32) = nI 4 := rfl
theorem n5 : (5 : Int32) = nI 5 := rfl
theorem n6 : (6 : Int32) = nI 6 := rfl
theorem n7 : (7 : Int32) = nI 7 := rfl
theorem n8 : (8 : Int32) = nI 8 := rfl
theorem n9 : (9 : Int32) = nI 9 := rfl
theorem n16 : (16 : Int32) = nI 16 := rfl
theorem n20 : (20 : Int32) = nI 20 := rfl
theorem n22 : (22 : Int32) = nI 22 := rfl
theorem n24 : (24 : Int32) = nI 24 := rfl
theorem n32 : (32 : Int32) = nI 32 := rfl
theorem n42 : (42 : Int32) = nI 42 := rfl
theorem n44 : (44 : Int32) = nI 44 := rfl
theorem n62 : (62 : Int32) = nI 62 := rfl
theorem n64 : (64 : Int32) = nI 64 := rfl
theorem n118 : (118 : Int32) = nI 118 := rfl
theorem n121 : (121 : Int32) = nI 121 := rfl
theorem n702 : (702 : Int32) = nI 702 := rfl
theorem n703 : (703 : Int32) = nI 703 := rfl
theorem eN {a b : Nat} (ha : a < 2 ^ 31) (hb : b < 2 ^ 31) : (nI a = nI b) = (a = b) := propext (nI_eq ha hb)
theorem lN_ {a b : Nat} (ha : a < 2 ^ 31) (hb : b < 2 ^ 31) : (nI a ≤ nI b) = (a ≤ b) := propext (nI_leI ha hb)
theorem tN_ {a b : Nat} (ha : a < 2 ^ 31) (hb : b < 2 ^ 31) : (nI a < nI b) = (a < b) := propext (nI_ltI ha hb)
/-- a loop that runs through the states st 0, st 1, .. st n and ends there -/
theorem gloop_run {σ ρ : Type} {body : σ → Option (σ ⊕ ρ)} (st : Nat → σ) (n : Nat) {r : ρ} (hs : ∀ i, i < n → body (st i) = some (.inl (st (i + 1)))) (he : body (st n) = some (.inr r)) : ∀ f, n < f → gloop body f (st 0) = some r := by
  have key : ∀ k i, i + k = n → ∀ f, k < f → gloop body f (st i) = some r := by
    intro k
    induction k with
    | zero =>
      intro i hi f hf
      obtain ⟨f, rfl⟩ : ∃ g, f = g + 1 := ⟨f - 1, by omega⟩
      have : i = n := by omega
      subst this
      show (body (st i)).bind _ = some r
      rw [he]; rfl
    | succ k ih =>
      intro i hi f hf
      obtain ⟨f, rfl⟩ : ∃ g, f = g + 1 := ⟨f - 1, by omega⟩
      show (body (st i)).bind _ = some r
      rw [hs i (by omega)]
      exact ih (i + 1) (by omega) f (by omega)
  intro f hf
  exact key n 0 (by omega) f hf
/-- a loop whose state keeps I; it goes on while it shrinks -/
theorem gloop_inv {σ ρ : Type} {body : σ → Option (σ ⊕ ρ)} (I : σ → Prop) (m : σ → Nat) (Z : ρ → Prop) (hs : ∀ s, I s → (∃ t, body s = some (.inl t) ∧ I t ∧ m t < m s) ∨ (∃ r, body s = some (.inr r) ∧ Z r)) : ∀ f s, I s → m s < f → ∃ r, gloop body f s = some r ∧ Z r := by
  intro f
  induction f with
  | zero => intro s _ h; exact absurd h (by omega)
  | succ f ih =>
    intro s hI hm
    rcases hs s hI with ⟨t, h1, h2, h3⟩ | ⟨r, h1, h2⟩
    · obtain ⟨r, h4, h5⟩ := ih t h2 (by omega)
      refine ⟨r, ?_, h5⟩
      show (body s).bind _ = some r
      rw [h1]; exact h4
    · refine ⟨r, ?_, h2⟩
      show (body s).bind _ = some r
      rw [h1]; rfl
/-- counting up: the state is a counter and what is carried -/
theorem gloop_up {σ ρ : Type} {body : Int32 × σ → Option ((Int32 × σ) ⊕ ρ)} (n : Nat) (S : Nat → σ) {r : ρ} (hs : ∀ i, i < n → body (nI i, S i) = some (.inl (nI (i + 1), S (i + 1)))) (he : body (nI n, S n) = some (.inr r)) (hn : n < gFuel) : gloop body gFuel (nI 0, S 0) = some r :=
  gloop_run (fun i => (nI i, S i)) n hs he gFuel hn
/-! the cells that count -/
def rI (k i : Nat) : Bool := match k with
  | 0 => i == 7
  | 1 => i == 1
  | 2 => true
  | 20 => i == 2
  | 28 => true | 29 => true | 30 => true | 31 => true | 32 => true
  | 34 => true | 35 => true | 36 => true | 37 => true | 38 => true | 39 => true | 40 => true | 41 => true | 42 => true | 43 => true | 44 => true | 45 => true | 46 => true
  | 60 => i == 5 || i == 10 || i == 18
  | 61 => true | 63 => true | 66 => true | 68 => true
  | _ => false
def rL (k : Nat) : Bool := match k with
  | 22 => true | 33 => true | 64 => true | 65 => true | 77 => true
  | _ => false
def Fr (μ ν : gM) : Prop := (∀ k i, rI k i = true → ν.1 k i = μ.1 k i) ∧ ∀ k i, rL k = true → ν.2 k i = μ.2 k i
theorem Fr.rf (μ : gM) : Fr μ μ := ⟨fun _ _ _ => rfl, fun _ _ _ => rfl⟩
theorem Fr.tr {μ ν ρ : gM} (h : Fr μ ν) (h2 : Fr ν ρ) : Fr μ ρ := ⟨fun k i q => (h2.1 k i q).trans (h.1 k i q), fun k i q => (h2.2 k i q).trans (h.2 k i q)⟩
theorem Fr.sy {μ ν : gM} (h : Fr μ ν) : Fr ν μ := ⟨fun k i q => (h.1 k i q).symm, fun k i q => (h.2 k i q).symm⟩
theorem Fr.si {μ ν : gM} {k i : Nat} {v : Int32} (q : rI k i = false) (h : Fr μ ν) : Fr μ (si ν k i v) := by
  refine ⟨fun a b hq => ?_, h.2⟩
  show (if a = k ∧ b = i then v else ν.1 a b) = μ.1 a b
  rw [if_neg (fun w => by rw [w.1, w.2, q] at hq; cases hq)]
  exact h.1 a b hq
theorem Fr.sl {μ ν : gM} {k i : Nat} {v : Int64} (q : rL k = false) (h : Fr μ ν) : Fr μ (sl ν k i v) := by
  refine ⟨h.1, fun a b hq => ?_⟩
  show (if a = k ∧ b = i then v else ν.2 a b) = μ.2 a b
  rw [if_neg (fun w => by rw [w.1, q] at hq; cases hq)]
  exact h.2 a b hq
theorem gi_si {μ : gM} {k i a b : Nat} {v : Int32} : gi (si μ k i v) a b = if a = k ∧ b = i then v else gi μ a b := rfl
theorem gi_sl {μ : gM} {k i a b : Nat} {v : Int64} : gi (sl μ k i v) a b = gi μ a b := rfl
theorem gl_si {μ : gM} {k i a b : Nat} {v : Int32} : gl (si μ k i v) a b = gl μ a b := rfl
theorem gl_sl {μ : gM} {k i a b : Nat} {v : Int64} : gl (sl μ k i v) a b = if a = k ∧ b = i then v else gl μ a b := rfl
theorem gi_sik {μ : gM} {k i a b : Nat} {v : Int32} (h : a ≠ k) : gi (si μ k i v) a b = gi μ a b := if_neg (fun w => h w.1)
theorem gi_sii {μ : gM} {k i : Nat} {v : Int32} : gi (si μ k i v) k i = v := if_pos ⟨rfl, rfl⟩
theorem gi_sij {μ : gM} {k i a b : Nat} {v : Int32} (h : b ≠ i) : gi (si μ k i v) a b = gi μ a b := if_neg (fun w => h w.2)
theorem gl_slk {μ : gM} {k i a b : Nat} {v : Int64} (h : a ≠ k) : gl (sl μ k i v) a b = gl μ a b := if_neg (fun w => h w.1)
theorem gl_sll {μ : gM} {k i : Nat} {v : Int64} : gl (sl μ k i v) k i = v := if_pos ⟨rfl, rfl⟩
/-! the relation of the two sides -/
def nv (o : Nat) (μ : gM) : Nat → Nat → Int32 := fun j i => if j < 13 then μ.1 (o + j) i else 0
abbrev inR (lo hi : Int) (x : Int32) : Prop := lo ≤ x.toInt ∧ x.toInt ≤ hi
def nL (v : Nat → Nat → Int32) : Nat := (v 0 0).toNatClampNeg
def nP (v : Nat → Nat → Int32) : Nat := (v 0 1).toNatClampNeg
def nN (v : Nat → Nat → Int32) : Nat := (v 0 2).toNatClampNeg
def nT (v : Nat → Nat → Int32) : Nat := (v 0 3).toNatClampNeg
def nA (v : Nat → Nat → Int32) : Nat := (v 0 4).toNatClampNeg
def fs (v : Nat → Nat → Int32) (k : Nat) : Nat := (v 6 k).toNatClampNeg
def sn (v : Nat → Nat → Int32) (k : Nat) : Nat := (v 7 k).toNatClampNeg
def lv (v : Nat → Nat → Int32) (k : Nat) : Nat := (v 8 k).toNatClampNeg
def ct (v : Nat → Nat → Int32) (k : Nat) : Nat := (v 9 k).toNatClampNeg
def tl (v : Nat → Nat → Int32) (t : Nat) : Nat := (v 11 t).toNatClampNeg
/-- line k of a network is in order -/
def LI (v : Nat → Nat → Int32) (k : Nat) : Prop := v 6 k = nI (fs v k) ∧ v 7 k = nI (sn v k) ∧ fs v k < nP v ∧ sn v k < nP v ∧ fs v k ≠ sn v k ∧ v 8 k = nI (lv v k) ∧ lv v k < nL v ∧ v 9 k = nI (ct v k) ∧ 1 ≤ ct v k ∧ ct v k ≤ 8 ∧
  ∀ s, s < ct v k → inR 0 40000 (v 10 (32 * k + 4 * s)) ∧ inR 0 40000 (v 10 (32 * k + 4 * s + 1)) ∧ inR 1 100 (v 10 (32 * k + 4 * s + 2)) ∧ inR 1 100 (v 10 (32 * k + 4 * s + 3))
def TI (v : Nat → Nat → Int32) (t : Nat) : Prop := v 11 t = nI (tl v t) ∧ tl v t < nL v ∧ ∀ h, h < 2 → inR 0 40000 (v 12 (8 * t + 4 * h)) ∧ inR 0 40000 (v 12 (8 * t + 4 * h + 1)) ∧ inR 1 100 (v 12 (8 * t + 4 * h + 2)) ∧ inR 1 100 (v 12 (8 * t + 4 * h + 3))
/-- a network of the class is in order -/
def CI (v : Nat → Nat → Int32) : Prop :=
  (v 0 0 = nI (nL v) ∧ v 0 1 = nI (nP v) ∧ v 0 2 = nI (nN v) ∧ v 0 3 = nI (nT v) ∧ v 0 4 = nI (nA v)) ∧ (nL v ≤ 3 ∧ nP v ≤ 16 ∧ nN v ≤ 20 ∧ nT v ≤ 6 ∧ nA v < 2 ^ nN v) ∧
  (inR 0 500 (v 1 0) ∧ inR 1 100 (v 1 1) ∧ inR 0 800 (v 1 2)) ∧ (∀ l, l < nL v → inR (-200) 200 (v 3 l)) ∧ (∀ p, p < nP v → v 5 p = -1 ∨ inR 0 9999999 (v 5 p)) ∧ (∀ k, k < nN v → LI v k) ∧ ∀ t, t < nT v → TI v t
/-- the model's numbers that change, for a network of the class -/
def DM (v : Nat → Nat → Int32) (d : Nat → Int32) : Prop :=
  (∀ i, i < 3 → d i = v 1 i) ∧ (∀ l, l < nL v → d (3 + l) = v 3 l) ∧ (∀ p, p < nP v → d (6 + p) = v 5 p) ∧ (∀ p, nP v ≤ p → p < 16 → d (6 + p) = -1) ∧
  (∀ k, k < nN v → d (22 + k) = if (nA v).testBit k then 1 else 0) ∧ (∀ k, k < nN v → d (42 + k) = v 9 k) ∧ ∀ k, k < nN v → ∀ s, s < ct v k → ∀ w, w < 4 → d (62 + (32 * k + 4 * s + w)) = v 10 (32 * k + 4 * s + w)
/-- the model's numbers that stay -/
def FM (v : Nat → Nat → Int32) (x : Nat → Int32) : Prop :=
  (x 0 = v 0 0 ∧ x 1 = v 0 1 ∧ x 2 = v 0 2 ∧ x 3 = v 0 3) ∧ (∀ k, k < nN v → x (4 + k) = v 6 k ∧ x (24 + k) = v 7 k ∧ x (44 + k) = v 8 k) ∧
  (∀ t, t < nT v → x (64 + 9 * t) = v 11 t ∧ ∀ i, i < 8 → x (64 + 9 * t + 1 + i) = v 12 (8 * t + i)) ∧ (∀ l, l < nL v → x (118 + l) = v 2 l) ∧ ∀ p, p < nP v → x (121 + p) = v 4 p
/-- points that a height is carried to -/
def rch (v : Nat → Nat → Int32) : Nat → Nat → Prop
  | 0, p => p < nP v ∧ v 5 p ≠ -1
  | n + 1, p => rch v n p ∨ ∃ k, k < nN v ∧ (nA v).testBit k = true ∧ ((fs v k = p ∧ rch v n (sn v k)) ∨ (sn v k = p ∧ rch v n (fs v k)))
abbrev noH : Int64 := -9223372036854775808
/-- the heights: z says that they are adjusted, a and h hold them -/
def HM (v : Nat → Nat → Int32) (z : Int32) (a : Nat → Int64) (d : Nat → Int32) (h : Nat → Int64) : Prop :=
  (z = 0 ∨ z = 1) ∧ d 702 = z ∧ (z = 1 → ∀ p, p < nP v → h p = a p ∧ (a p = noH ↔ ¬ ∃ n, rch v n p) ∧ (a p = noH ∨ (-1000000000000 ≤ (a p).toInt ∧ (a p).toInt ≤ 1000000000000)))
/-- two networks that hold the same -/
def eqN (u v : Nat → Nat → Int32) : Prop :=
  u 0 0 = v 0 0 ∧ u 0 1 = v 0 1 ∧ u 0 2 = v 0 2 ∧ u 0 3 = v 0 3 ∧ u 0 4 = v 0 4 ∧ (∀ i, i < 3 → u 1 i = v 1 i) ∧ (∀ l, l < nL v → u 2 l = v 2 l ∧ u 3 l = v 3 l) ∧ (∀ p, p < nP v → u 4 p = v 4 p ∧ u 5 p = v 5 p) ∧
  (∀ k, k < nN v → u 6 k = v 6 k ∧ u 7 k = v 7 k ∧ u 8 k = v 8 k ∧ u 9 k = v 9 k ∧ ∀ s, s < ct v k → ∀ w, w < 4 → u 10 (32 * k + 4 * s + w) = v 10 (32 * k + 4 * s + w)) ∧ ∀ t, t < nT v → u 11 t = v 11 t ∧ ∀ i, i < 8 → u 12 (8 * t + i) = v 12 (8 * t + i)
def vset (v : Nat → Nat → Int32) (j i : Nat) (x : Int32) : Nat → Nat → Int32 := fun a b => if a = j ∧ b = i then x else v a b
/-- slot q of the history says how to come from v back to w -/
def undo1 (K I B : Nat → Int32) (q : Nat) (v w : Nat → Nat → Int32) : Prop :=
  (K q = 0 ∧ ∃ i, i < nP v ∧ I q = nI i ∧ eqN w (vset v 5 i (B q))) ∨ (K q = 1 ∧ ∃ k s x, k < nN v ∧ s < ct v k ∧ x < 4 ∧ I q = nI (32 * k + 4 * s + x) ∧ eqN w (vset v 10 (32 * k + 4 * s + x) (B q))) ∨
  (K q = 2 ∧ ∃ k c, k < nN v ∧ c ≤ ct v k ∧ I q = nI k ∧ B q = nI c ∧ eqN w (vset v 9 k (nI c))) ∨ (K q = 3 ∧ ∃ a, B q = nI a ∧ a < 2 ^ nN v ∧ eqN w (vset v 0 4 (nI a))) ∨
  (K q = 4 ∧ ∃ i, i < nL v ∧ I q = nI i ∧ eqN w (vset v 3 i (B q))) ∨ (K q = 5 ∧ ∃ i, i < 3 ∧ I q = nI i ∧ eqN w (vset v 1 i (B q))) ∨ (K q = 6 ∧ eqN w v)
def RH (K I B Z : Nat → Int32) (J : Nat → Int64) (o : Nat) (h : Nat → Int32) (g : Nat → Int64) : Nat → (Nat → Nat → Int32) → Prop
  | 0, _ => True
  | n + 1, v => ∃ w, CI w ∧ undo1 K I B ((o + n) % 8) v w ∧ DM w (fun i => h (703 * n + i)) ∧ HM w (Z ((o + n) % 8)) (fun p => J (16 * ((o + n) % 8) + p)) (fun i => h (703 * n + i)) (fun p => g (16 * n + p)) ∧ RH K I B Z J o h g n w
def RelF (v : Nat → Nat → Int32) (d x : Nat → Int32) (z : Int32) (a h : Nat → Int64) (ec em : Int32) (tc tm : Nat → Int32) (bc bm : Int32) (hc : Int32) (ho : Int32) (hm : Int32) (K I B Z : Nat → Int32) (J : Nat → Int64) (hd : Nat → Int32) (hh : Nat → Int64) : Prop :=
  CI v ∧ DM v d ∧ FM v x ∧ HM v z a d h ∧ ec = em ∧ (∃ n, n ≤ 1200 ∧ bc = nI n ∧ bm = nI n ∧ ∀ i, i < n → tc i = tm i ∧ inR (-128) 127 (tc i)) ∧ ∃ n o, n ≤ 8 ∧ o < 8 ∧ hc = nI n ∧ hm = nI n ∧ ho = nI o ∧ RH K I B Z J o hd hh n v
def Rel (μ : gM) : Prop := RelF (nv 34 μ) (μ.1 61) (μ.1 66) (μ.1 20 2) (μ.2 22) (μ.2 64) (μ.1 0 7) (μ.1 60 18) (μ.1 2) (μ.1 68) (μ.1 1 1) (μ.1 60 10) (μ.1 28 0) (μ.1 28 1) (μ.1 60 5) (μ.1 29) (μ.1 30) (μ.1 31) (μ.1 32) (μ.2 33) (μ.1 63) (μ.2 65)
theorem Fr_nv {μ ν : gM} (h : Fr μ ν) : nv 34 ν = nv 34 μ := by
  funext j i
  unfold nv
  by_cases c : j < 13
  · rw [if_pos c, if_pos c]
    refine h.1 _ _ ?_
    match j, c with
    | 0, _ => rfl | 1, _ => rfl | 2, _ => rfl | 3, _ => rfl | 4, _ => rfl | 5, _ => rfl | 6, _ => rfl | 7, _ => rfl | 8, _ => rfl | 9, _ => rfl | 10, _ => rfl | 11, _ => rfl | 12, _ => rfl
    | k + 13, c => exact absurd c (by omega)
  · rw [if_neg c, if_neg c]
theorem Fr.f {μ ν : gM} (h : Fr μ ν) (k : Nat) (q : ∀ i, rI k i = true) : ν.1 k = μ.1 k := funext fun i => h.1 k i (q i)
theorem Fr.g {μ ν : gM} (h : Fr μ ν) (k : Nat) (q : rL k = true) : ν.2 k = μ.2 k := funext fun i => h.2 k i q
theorem Rel.fr {μ ν : gM} (h : Fr μ ν) (R : Rel μ) : Rel ν := by
  unfold Rel
  rw [Fr_nv h, h.f 61 (fun _ => rfl), h.f 66 (fun _ => rfl), h.1 20 2 rfl, h.g 22 rfl, h.g 64 rfl, h.1 0 7 rfl, h.1 60 18 rfl, h.f 2 (fun _ => rfl), h.f 68 (fun _ => rfl), h.1 1 1 rfl, h.1 60 10 rfl, h.1 28 0 rfl, h.1 28 1 rfl, h.1 60 5 rfl,
    h.f 29 (fun _ => rfl), h.f 30 (fun _ => rfl), h.f 31 (fun _ => rfl), h.f 32 (fun _ => rfl), h.g 33 rfl, h.f 63 (fun _ => rfl), h.g 65 rfl]
  exact R
theorem Rel.sl77 {μ : gM} (R : Rel μ) (i : Nat) (x : Int64) : Rel (sl μ 77 i x) := by
  unfold Rel at R ⊢
  have e : ∀ k, k ≠ 77 → (sl μ 77 i x).2 k = μ.2 k := fun k hk => funext fun b => if_neg (fun w => hk w.1)
  rw [e 22 (by decide), e 64 (by decide), e 33 (by decide), e 65 (by decide)]
  exact R

/-! the whole text read -/
section TXT
variable {n : Nat} {μ : gM}
variable {tt : Nat} {cl : Nat → Nat × Bool} {ho : Nat → Option Nat} {ff ss ll cc : Nat → Nat} {rr : Nat → Nat → Nat → Nat}
def clV (x : Nat × Bool) : Int32 := if x.2 = true then - nI x.1 else nI x.1
/-- what the draft holds: a levels, b points, c lines -/
def DF (tt : Nat) (cl : Nat → Nat × Bool) (ho : Nat → Option Nat) (ff ss ll cc : Nat → Nat) (rr : Nat → Nat → Nat → Nat) (a b c : Nat) (μ : gM) : Prop := NMS a b μ ∧ (gi μ 47 2 = nI c ∧ gi μ 47 3 = 0 ∧ gi μ 47 4 = nI (2 ^ c - 1)) ∧ (gi μ 48 0 = nI tt ∧ gi μ 48 1 = 60 ∧ gi μ 48 2 = 20) ∧ (∀ l, l < a → gi μ 50 l = clV (cl l)) ∧ (∀ p, p < b → gi μ 52 p = oI (ho p)) ∧
  ∀ k, k < c → gi μ 53 k = nI (ff k) ∧ gi μ 54 k = nI (ss k) ∧ gi μ 55 k = nI (ll k) ∧ gi μ 56 k = nI (cc k) ∧ ∀ s, s < cc k → ∀ w, w < 4 → gi μ 57 (32 * k + 4 * s + w) = nI (rr k s w)
theorem DF.cg {a b c : Nat} {μ' : gM} (D : DF tt cl ho ff ss ll cc rr a b c μ) (h : ∀ k i, 47 ≤ k → k < 58 → gi μ' k i = gi μ k i) : DF tt cl ho ff ss ll cc rr a b c μ' := by
  obtain ⟨d1, ⟨d2, d3, d4⟩, ⟨d5, d6, d7⟩, d8, d9, d10⟩ := D
  refine ⟨d1.f2 (fun k i hk => h k i (by omega) (by omega)), ⟨(h _ _ (by decide) (by decide)).trans d2, (h _ _ (by decide) (by decide)).trans d3, (h _ _ (by decide) (by decide)).trans d4⟩, ⟨(h _ _ (by decide) (by decide)).trans d5, (h _ _ (by decide) (by decide)).trans d6, (h _ _ (by decide) (by decide)).trans d7⟩, fun l hl => (h _ _ (by decide) (by decide)).trans (d8 l hl), fun p hp => (h _ _ (by decide) (by decide)).trans (d9 p hp), fun k hk => ?_⟩
  obtain ⟨e1, e2, e3, e4, e5⟩ := d10 k hk
  exact ⟨(h _ _ (by decide) (by decide)).trans e1, (h _ _ (by decide) (by decide)).trans e2, (h _ _ (by decide) (by decide)).trans e3, (h _ _ (by decide) (by decide)).trans e4, fun s hs w hw => (h _ _ (by decide) (by decide)).trans (e5 s hs w hw)⟩
theorem DF.af {a b c : Nat} {μ' : gM} (D : DF tt cl ho ff ss ll cc rr a b c μ) (F : AF μ μ') : DF tt cl ho ff ss ll cc rr a b c μ' := D.cg (fun k i h1 _ => F.g k i (by omega))
theorem DF.lv {a b c : Nat} {μ' : gM} (D : DF tt cl ho ff ss ll cc rr a b c μ) (ha : a < 3) (F : FX (eLev a) μ μ') (h0 : gi μ' 47 0 = nI (a + 1)) (h1 : gi μ' 49 a = nmL a) (h2 : gi μ' 50 a = clV (cl a)) : DF tt cl ho ff ss ll cc rr (a + 1) b c μ' := by
  obtain ⟨⟨⟨n1, n2, n3⟩, n4, n5, n6⟩, ⟨d2, d3, d4⟩, ⟨d5, d6, d7⟩, d8, d9, d10⟩ := D
  have h : ∀ k i, 47 ≤ k → ¬ eLev a k i → gi μ' k i = gi μ k i := fun k i q r => F.1 k i (by omega) r
  have ne : ∀ k i, (k ≠ 47 ∨ i ≠ 0) → (k ≠ 49 ∨ i ≠ a) → (k ≠ 50 ∨ i ≠ a) → ¬ eLev a k i := fun k i a1 a2 a3 w => by unfold eLev at w; omega
  refine ⟨⟨⟨h0, by omega, fun l hl => ?_⟩, (h _ _ (by decide) (ne _ _ (by omega) (by omega) (by omega))).trans n4, n5, fun p hp => (h _ _ (by decide) (ne _ _ (by omega) (by omega) (by omega))).trans (n6 p hp)⟩, ⟨(h _ _ (by decide) (ne _ _ (by omega) (by omega) (by omega))).trans d2, (h _ _ (by decide) (ne _ _ (by omega) (by omega) (by omega))).trans d3, (h _ _ (by decide) (ne _ _ (by omega) (by omega) (by omega))).trans d4⟩, ⟨(h _ _ (by decide) (ne _ _ (by omega) (by omega) (by omega))).trans d5, (h _ _ (by decide) (ne _ _ (by omega) (by omega) (by omega))).trans d6, (h _ _ (by decide) (ne _ _ (by omega) (by omega) (by omega))).trans d7⟩, fun l hl => ?_, fun p hp => (h _ _ (by decide) (ne _ _ (by omega) (by omega) (by omega))).trans (d9 p hp), fun k hk => ?_⟩
  · by_cases e : l = a
    · rw [e]; exact h1
    · exact (h _ _ (by decide) (ne _ _ (by omega) (by omega) (by omega))).trans (n3 l (by omega))
  · by_cases e : l = a
    · rw [e]; exact h2
    · exact (h _ _ (by decide) (ne _ _ (by omega) (by omega) (by omega))).trans (d8 l (by omega))
  · obtain ⟨e1, e2, e3, e4, e5⟩ := d10 k hk
    exact ⟨(h _ _ (by decide) (ne _ _ (by omega) (by omega) (by omega))).trans e1, (h _ _ (by decide) (ne _ _ (by omega) (by omega) (by omega))).trans e2, (h _ _ (by decide) (ne _ _ (by omega) (by omega) (by omega))).trans e3, (h _ _ (by decide) (ne _ _ (by omega) (by omega) (by omega))).trans e4, fun s hs w hw => (h _ _ (by decide) (ne _ _ (by omega) (by omega) (by omega))).trans (e5 s hs w hw)⟩
theorem DF.pt {a b c : Nat} {μ' : gM} (D : DF tt cl ho ff ss ll cc rr a b c μ) (hb : b < 16) (F : FX (ePt b) μ μ') (h0 : gi μ' 47 1 = nI (b + 1)) (h1 : gi μ' 51 b = nmP b) (h2 : gi μ' 52 b = oI (ho b)) : DF tt cl ho ff ss ll cc rr a (b + 1) c μ' := by
  obtain ⟨⟨⟨n1, n2, n3⟩, n4, n5, n6⟩, ⟨d2, d3, d4⟩, ⟨d5, d6, d7⟩, d8, d9, d10⟩ := D
  have h : ∀ k i, 47 ≤ k → ¬ ePt b k i → gi μ' k i = gi μ k i := fun k i q r => F.1 k i (by omega) r
  have ne : ∀ k i, (k ≠ 47 ∨ i ≠ 1) → (k ≠ 51 ∨ i ≠ b) → (k ≠ 52 ∨ i ≠ b) → ¬ ePt b k i := fun k i a1 a2 a3 w => by unfold ePt at w; omega
  refine ⟨⟨⟨(h _ _ (by decide) (ne _ _ (by omega) (by omega) (by omega))).trans n1, n2, fun l hl => (h _ _ (by decide) (ne _ _ (by omega) (by omega) (by omega))).trans (n3 l hl)⟩, h0, by omega, fun p hp => ?_⟩, ⟨(h _ _ (by decide) (ne _ _ (by omega) (by omega) (by omega))).trans d2, (h _ _ (by decide) (ne _ _ (by omega) (by omega) (by omega))).trans d3, (h _ _ (by decide) (ne _ _ (by omega) (by omega) (by omega))).trans d4⟩, ⟨(h _ _ (by decide) (ne _ _ (by omega) (by omega) (by omega))).trans d5, (h _ _ (by decide) (ne _ _ (by omega) (by omega) (by omega))).trans d6, (h _ _ (by decide) (ne _ _ (by omega) (by omega) (by omega))).trans d7⟩, fun l hl => (h _ _ (by decide) (ne _ _ (by omega) (by omega) (by omega))).trans (d8 l hl), fun p hp => ?_, fun k hk => ?_⟩
  · by_cases e : p = b
    · rw [e]; exact h1
    · exact (h _ _ (by decide) (ne _ _ (by omega) (by omega) (by omega))).trans (n6 p (by omega))
  · by_cases e : p = b
    · rw [e]; exact h2
    · exact (h _ _ (by decide) (ne _ _ (by omega) (by omega) (by omega))).trans (d9 p (by omega))
  · obtain ⟨e1, e2, e3, e4, e5⟩ := d10 k hk
    exact ⟨(h _ _ (by decide) (ne _ _ (by omega) (by omega) (by omega))).trans e1, (h _ _ (by decide) (ne _ _ (by omega) (by omega) (by omega))).trans e2, (h _ _ (by decide) (ne _ _ (by omega) (by omega) (by omega))).trans e3, (h _ _ (by decide) (ne _ _ (by omega) (by omega) (by omega))).trans e4, fun s hs w hw => (h _ _ (by decide) (ne _ _ (by omega) (by omega) (by omega))).trans (e5 s hs w hw)⟩
theorem DF.ln {a b c : Nat} {μ' : gM} (D : DF tt cl ho ff ss ll cc rr a b c μ) (hc8 : ∀ k, cc k ≤ 8) (F : FX (eLn c) μ μ') (g2 : gi μ' 47 2 = nI (c + 1)) (g4 : gi μ' 47 4 = nI (2 ^ (c + 1) - 1)) (x1 : gi μ' 53 c = nI (ff c)) (x2 : gi μ' 54 c = nI (ss c)) (x3 : gi μ' 55 c = nI (ll c)) (x4 : gi μ' 56 c = nI (cc c)) (x5 : ∀ s, s < cc c → ∀ w, w < 4 → gi μ' 57 (32 * c + 4 * s + w) = nI (rr c s w)) : DF tt cl ho ff ss ll cc rr a b (c + 1) μ' := by
  obtain ⟨⟨⟨n1, n2, n3⟩, n4, n5, n6⟩, ⟨d2, d3, d4⟩, ⟨d5, d6, d7⟩, d8, d9, d10⟩ := D
  have h : ∀ k i, 47 ≤ k → ¬ eLn c k i → gi μ' k i = gi μ k i := fun k i q r => F.1 k i (by omega) r
  have ne : ∀ k i, (k ≠ 47 ∨ (i ≠ 2 ∧ i ≠ 4)) → ((k ≠ 53 ∧ k ≠ 54 ∧ k ≠ 55 ∧ k ≠ 56) ∨ i ≠ c) → (k ≠ 57 ∨ i < 32 * c ∨ 32 * c + 32 ≤ i) → ¬ eLn c k i := fun k i a1 a2 a3 w => by unfold eLn eR at w; omega
  refine ⟨⟨⟨(h _ _ (by decide) (ne _ _ (by omega) (by omega) (by omega))).trans n1, n2, fun l hl => (h _ _ (by decide) (ne _ _ (by omega) (by omega) (by omega))).trans (n3 l hl)⟩, (h _ _ (by decide) (ne _ _ (by omega) (by omega) (by omega))).trans n4, n5, fun p hp => (h _ _ (by decide) (ne _ _ (by omega) (by omega) (by omega))).trans (n6 p hp)⟩, ⟨g2, (h _ _ (by decide) (ne _ _ (by omega) (by omega) (by omega))).trans d3, g4⟩, ⟨(h _ _ (by decide) (ne _ _ (by omega) (by omega) (by omega))).trans d5, (h _ _ (by decide) (ne _ _ (by omega) (by omega) (by omega))).trans d6, (h _ _ (by decide) (ne _ _ (by omega) (by omega) (by omega))).trans d7⟩, fun l hl => (h _ _ (by decide) (ne _ _ (by omega) (by omega) (by omega))).trans (d8 l hl), fun p hp => (h _ _ (by decide) (ne _ _ (by omega) (by omega) (by omega))).trans (d9 p hp), fun k hk => ?_⟩
  by_cases e : k = c
  · rw [e]; exact ⟨x1, x2, x3, x4, x5⟩
  · obtain ⟨e1, e2, e3, e4, e5⟩ := d10 k (by omega)
    have h8 := hc8 k
    exact ⟨(h _ _ (by decide) (ne _ _ (by omega) (by omega) (by omega))).trans e1, (h _ _ (by decide) (ne _ _ (by omega) (by omega) (by omega))).trans e2, (h _ _ (by decide) (ne _ _ (by omega) (by omega) (by omega))).trans e3, (h _ _ (by decide) (ne _ _ (by omega) (by omega) (by omega))).trans e4, fun s hs w hw => (h _ _ (by decide) (ne _ _ (by omega) (by omega) (by omega))).trans (e5 s hs w hw)⟩
/-- one statement of the text -/
theorem b25 {N i : Nat} {w Q R : List Nat} {μ1 μ2 : gM} (h : CTk n μ (twd w) Q) (e : f_X4_readStatement μ = some (true, μ1)) (T1 : CTk n μ1 tsm R) (e2 : f_X4_advance μ1 = some μ2) (hi : i ≤ N) (hN : N < 2 ^ 31) : b_X4_readText_25 (nI N) (nI i) μ = some (.inl (nI (i + 1), μ2)) := by
  unfold b_X4_readText_25
  rw [if_neg (nI_nlt hi hN), h.kd, if_neg (show ¬ nI (twd w).1 = 0 from by show ¬ nI 1 = 0; decide), e, Option.bind_some, if_neg kT1, T1.kd, if_pos (show nI tsm.1 = 3 from rfl), e2, Option.bind_some, nI_1]
abbrev eAll (k _i : Nat) : Prop := 47 ≤ k ∧ k < 60
def xPo (R : List Nat) : Option Nat → List Nat
  | some x => 32 :: (sdig x ++ (59 :: R))
  | none => 59 :: R
def xPts (ho : Nat → Option Nat) (R : List Nat) : Nat → Nat → List Nat
  | 0, _ => R
  | m + 1, p => kPoint ++ (32 :: ([112, 97 + p] ++ xPo (xPts ho R m (p + 1)) (ho p)))
def tPts (ho : Nat → Option Nat) (R : List Nat) (TS : Tk × List Nat) : Nat → Nat → Tk × List Nat
  | 0, _ => TS
  | m + 1, p => (twd kPoint, 32 :: ([112, 97 + p] ++ xPo (xPts ho R m (p + 1)) (ho p)))
theorem tPts_L {R : List Nat} {TS : Tk × List Nat} (h : Lx R TS.1 TS.2) (m p : Nat) : Lx (xPts ho R m p) (tPts ho R TS m p).1 (tPts ho R TS m p).2 := by
  cases m with
  | zero => exact h
  | succ m => exact Lx_w0 (by decide) (by unfold lt1; decide) (hd_w (by decide))
theorem rd_pts {N a c P : Nat} {R : List Nat} {TS : Tk × List Nat} (hTS : Lx R TS.1 TS.2) (hP : P ≤ 16) (hho : ∀ p x, ho p = some x → x ≤ 9999999) (hN : N < 2 ^ 31) : ∀ m p i μ f, p + m = P → i + m ≤ N → m < f → CTk n μ (tPts ho R TS m p).1 (tPts ho R TS m p).2 → DF tt cl ho ff ss ll cc rr a p c μ → ∃ μ', gloop (fun (t : Int32 × gM) => b_X4_readText_25 (nI N) t.1 t.2) f (nI i, μ) = gloop (fun (t : Int32 × gM) => b_X4_readText_25 (nI N) t.1 t.2) (f - m) (nI (i + m), μ') ∧ CTk n μ' TS.1 TS.2 ∧ FX eAll μ μ' ∧ DF tt cl ho ff ss ll cc rr a P c μ' := by
  intro m
  induction m with
  | zero =>
    intro p i μ f h1 h2 h3 h D
    exact ⟨μ, rfl, h, FX.rf _ μ, by rw [show P = p by omega]; exact D⟩
  | succ m ih =>
    intro p i μ f h1 h2 h3 h D
    have h : CTk n μ (twd kPoint) (32 :: ([112, 97 + p] ++ xPo (xPts ho R m (p + 1)) (ho p))) := h
    obtain ⟨μ1, e1, T1, F1, v1, v2, v3⟩ := rd_point (a := a) (b := p) (p := p) (R := xPts ho R m (p + 1)) (o := ho p) (by cases ho p <;> rfl) h (fun x hx => hho p x hx) D.1 (by omega) ⟨by omega, Nat.le_refl _⟩
    obtain ⟨μ2, e2, F2, T2⟩ := adv T1 (tPts_L hTS m (p + 1))
    have D1 := (D.pt (by omega) F1 v1 v2 v3).af F2
    obtain ⟨μ', g1, g2, g3, g4⟩ := ih (p + 1) (i + 1) μ2 (f - 1) (by omega) (by omega) (by omega) T2 D1
    refine ⟨μ', ?_, g2, (F1.mo (fun k i w => by unfold ePt at w; show 47 ≤ k ∧ k < 60; omega)).tr ((AF.fx F2).tr g3), g4⟩
    rw [gl_s (s := (nI i, μ)) (by omega) (b25 h e1 T1 e2 (by omega) hN), g1, show f - 1 - m = f - (m + 1) by omega, show i + 1 + m = i + (m + 1) by omega]
def xLns (ff ss ll cc : Nat → Nat) (rr : Nat → Nat → Nat → Nat) : Nat → Nat → List Nat
  | 0, _ => []
  | m + 1, k => kLine ++ (32 :: ([112, 97 + ff k] ++ (32 :: ([112, 97 + ss k] ++ (32 :: ([108, 97 + ll k] ++ Qn (rr k) (xLns ff ss ll cc rr m (k + 1)) (cc k) 0))))))
def tLns (ff ss ll cc : Nat → Nat) (rr : Nat → Nat → Nat → Nat) : Nat → Nat → Tk × List Nat
  | 0, _ => (ten, [])
  | m + 1, k => (twd kLine, 32 :: ([112, 97 + ff k] ++ (32 :: ([112, 97 + ss k] ++ (32 :: ([108, 97 + ll k] ++ Qn (rr k) (xLns ff ss ll cc rr m (k + 1)) (cc k) 0))))))
theorem tLns_L (m k : Nat) : Lx (xLns ff ss ll cc rr m k) (tLns ff ss ll cc rr m k).1 (tLns ff ss ll cc rr m k).2 := by
  cases m with
  | zero => exact Or.inr (Or.inr (Or.inr ⟨rfl, rfl, rfl⟩))
  | succ m => exact Lx_w0 (by decide) (by unfold lt1; decide) (hd_w (by decide))
theorem rd_lns {N a b C : Nat} (hC : C ≤ 20) (hcc : ∀ k, 1 ≤ cc k ∧ cc k ≤ 7) (hln : ∀ k, k < C → ff k < b ∧ ss k < b ∧ ff k ≠ ss k ∧ ll k < a) (hrr : ∀ k s w, w < 4 → gdx w (rr k s w)) (hN : N < 2 ^ 31) : ∀ m k i μ f, k + m = C → i + m ≤ N → m < f → CTk n μ (tLns ff ss ll cc rr m k).1 (tLns ff ss ll cc rr m k).2 → DF tt cl ho ff ss ll cc rr a b k μ → ∃ μ', gloop (fun (t : Int32 × gM) => b_X4_readText_25 (nI N) t.1 t.2) f (nI i, μ) = gloop (fun (t : Int32 × gM) => b_X4_readText_25 (nI N) t.1 t.2) (f - m) (nI (i + m), μ') ∧ CTk n μ' ten [] ∧ FX eAll μ μ' ∧ DF tt cl ho ff ss ll cc rr a b C μ' := by
  intro m
  induction m with
  | zero =>
    intro k i μ f h1 h2 h3 h D
    exact ⟨μ, rfl, h, FX.rf _ μ, by rw [show C = k by omega]; exact D⟩
  | succ m ih =>
    intro k i μ f h1 h2 h3 h D
    have h : CTk n μ (twd kLine) (32 :: ([112, 97 + ff k] ++ (32 :: ([112, 97 + ss k] ++ (32 :: ([108, 97 + ll k] ++ Qn (rr k) (xLns ff ss ll cc rr m (k + 1)) (cc k) 0)))))) := h
    obtain ⟨l1, l2, l3, l4⟩ := hln k (by omega)
    obtain ⟨μ1, e1, T1, F1, v1, v2, v3, v4, v5, v6, v7⟩ := rd_line h D.1 l1 l2 l3 l4 (hcc k) (by omega) D.2.1.1 D.2.1.2.2 (fun s _ w hw => hrr k s w hw)
    obtain ⟨μ2, e2, F2, T2⟩ := adv T1 (tLns_L m (k + 1))
    have D1 := (D.ln (fun k => by have := hcc k; omega) F1 v1 v2 v3 v4 v5 v6 v7).af F2
    obtain ⟨μ', g1, g2, g3, g4⟩ := ih (k + 1) (i + 1) μ2 (f - 1) (by omega) (by omega) (by omega) T2 D1
    refine ⟨μ', ?_, g2, (F1.mo (fun K i w => by unfold eLn eR at w; show 47 ≤ K ∧ K < 60; omega)).tr ((AF.fx F2).tr g3), g4⟩
    rw [gl_s (s := (nI i, μ)) (by omega) (b25 h e1 T1 e2 (by omega) hN), g1, show f - 1 - m = f - (m + 1) by omega, show i + 1 + m = i + (m + 1) by omega]
end TXT

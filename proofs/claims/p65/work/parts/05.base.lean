def gDescL : List ((Nat × Nat) ⊕ (Nat × List Nat)) := [.inr (7, [3, 5, 8, 22, 30, 36, 49, 0]), .inr (4, [4, 0, 0, 0, 0, 0, 0, 0, 0, 0]), .inl (2, 1200), .inr (6, [6, 7, 0, 0]), .inl (0, 16), .inl (0, 20), .inr (2, [9, 0, 15, 16, 17, 18, 19, 20, 0, 21]), .inr (5, [10, 11, 12, 13, 14, 0, 0]), .inl (0, 16), .inl (0, 16), .inl (0, 16), .inl (0, 16), .inl (0, 16), .inl (0, 20), .inl (0, 20), .inl (0, 20), .inl (0, 20), .inl (0, 20), .inl (0, 17), .inl (0, 16), .inr (0, [23, 24, 0, 25, 26, 27, 28, 29]), .inl (1, 16), .inl (1, 16), .inl (0, 16), .inl (0, 17), .inl (0, 40), .inl (0, 40), .inl (0, 40), .inr (1, [0, 0, 31, 32, 33, 34, 35]), .inl (0, 8), .inl (0, 8), .inl (0, 8), .inl (3, 8), .inl (1, 128), .inr (3, [0, 0, 0, 0, 0, 37, 38, 39, 40, 41, 42, 43, 44, 45, 46, 47, 48]), .inl (0, 3), .inl (0, 3), .inl (0, 3), .inl (0, 16), .inl (0, 16), .inl (0, 20), .inl (0, 20), .inl (0, 20), .inl (0, 20), .inl (0, 640), .inl (0, 6), .inl (0, 48), .inr (3, [0, 0, 0, 0, 0, 50, 51, 52, 53, 54, 55, 56, 57, 58, 59, 60, 61]), .inl (0, 3), .inl (0, 3), .inl (0, 3), .inl (0, 16), .inl (0, 16), .inl (0, 20), .inl (0, 20), .inl (0, 20), .inl (0, 20), .inl (0, 640), .inl (0, 6), .inl (0, 48)]
def gFull : List Nat := [0, 1, 2, 3, 4, 5, 6, 7, 8, 9, 10, 11, 12, 13, 14, 15, 16, 17, 18, 19, 20, 21, 22, 23, 24, 25, 26, 27, 28, 29, 30, 31, 32, 33, 34, 35, 36, 37, 38, 39, 40, 41, 42, 43, 44, 45, 46, 47, 48, 49, 50, 51, 52, 53, 54, 55, 56, 57, 58, 59]
def gSt : List (String × String × String × FieldType × List Int32) := [("LevelNetwork", "LEAST_NUMBER", "[I", .int, [0, 0, 1, 1]), ("LevelNetwork", "GREATEST_NUMBER", "[I", .int, [40000, 40000, 100, 100]), ("LevelNetwork", "LEAST_SETTING", "[I", .int, [0, 1, 0]), ("LevelNetwork", "GREATEST_SETTING", "[I", .int, [500, 100, 800]), ("LevelNetwork", "INITIAL_SETTING", "[I", .int, [40, 60, 20]), ("LevelNetwork$TextReader", "LEVEL_WORD", "[C", .char, [108, 101, 118, 101, 108]), ("LevelNetwork$TextReader", "DOWN_WORD", "[C", .char, [100, 111, 119, 110]), ("LevelNetwork$TextReader", "POINT_WORD", "[C", .char, [112, 111, 105, 110, 116]), ("LevelNetwork$TextReader", "LINE_WORD", "[C", .char, [108, 105, 110, 101]), ("LevelNetwork$TextReader", "TEST_WORD", "[C", .char, [116, 101, 115, 116]), ("LevelNetwork$TextReader", "SET_WORD", "[C", .char, [115, 101, 116]), ("LevelNetwork$TextReader", "TOLERANCE_WORD", "[C", .char, [116, 111, 108, 101, 114, 97, 110, 99, 101]), ("LevelNetwork$TextReader", "SIGHT_WORD", "[C", .char, [115, 105, 103, 104, 116]), ("LevelNetwork$TextReader", "BALANCE_WORD", "[C", .char, [98, 97, 108, 97, 110, 99, 101])]
/-! memory: what the objects of both sides hold, by a number of the object and a place in it -/
abbrev gM : Type := (Nat → Nat → Int32) × (Nat → Nat → Int64)
def gi (μ : gM) (k i : Nat) : Int32 := μ.1 k i
def gl (μ : gM) (k i : Nat) : Int64 := μ.2 k i
def si (μ : gM) (k i : Nat) (v : Int32) : gM := (fun a b => if a = k ∧ b = i then v else μ.1 a b, μ.2)
def sl (μ : gM) (k i : Nat) (v : Int64) : gM := (μ.1, fun a b => if a = k ∧ b = i then v else μ.2 a b)
/-- n longs of k1 from p1 on, to k2 from p2 on -/
def cpl (μ : gM) (k1 k2 p1 p2 n : Nat) : gM := (μ.1, fun a b => if a = k2 ∧ p2 ≤ b ∧ b < p2 + n then μ.2 k1 (p1 + (b - p2)) else μ.2 a b)
/-! programs that may fail -/
def gchk {α : Type} (b : Prop) [Decidable b] (x : Option α) : Option α := if b then x else none
abbrev gIn (i : Int32) (n : Nat) : Prop := 0 ≤ i ∧ i.toNatClampNeg < n
abbrev gBool (x : Int32) : Prop := x = 0 ∨ x = 1
def b2i (b : Bool) : Int32 := if b then 1 else 0
def i2b (x : Int32) : Option Bool := if x = 0 then some false else if x = 1 then some true else none
def gloop {σ ρ : Type} (body : σ → Option (σ ⊕ ρ)) : Nat → σ → Option ρ
  | 0, _ => none
  | n + 1, s => (body s).bind (fun o => Sum.elim (fun t => gloop body n t) (fun r => some r) o)
def gFuel : Nat := 1000000
theorem gchk_e {α : Type} {b : Prop} [Decidable b] {x : Option α} {r : α} (h : gchk b x = some r) : b ∧ x = some r := by
  unfold gchk at h
  by_cases c : b
  · rw [if_pos c] at h; exact ⟨c, h⟩
  · rw [if_neg c] at h; cases h
theorem gbind_e {α β : Type} {o : Option α} {f : α → Option β} {r : β} (h : Option.bind o f = some r) : ∃ q, o = some q ∧ f q = some r := by
  cases o with
  | none => cases h
  | some q => exact ⟨q, rfl, h⟩
theorem gif_t {α : Type} {p : Prop} [Decidable p] {a b r : α} (c : p) (h : (if p then a else b) = r) : a = r := by rwa [if_pos c] at h
theorem gif_f {α : Type} {p : Prop} [Decidable p] {a b r : α} (c : ¬ p) (h : (if p then a else b) = r) : b = r := by rwa [if_neg c] at h
theorem gsum_l {α β γ : Type} {f : α → γ} {g : β → γ} {q : α ⊕ β} {t : α} {r : γ} (e : q = .inl t) (h : Sum.elim f g q = r) : f t = r := by subst e; exact h
theorem gsum_r {α β γ : Type} {f : α → γ} {g : β → γ} {q : α ⊕ β} {t : β} {r : γ} (e : q = .inr t) (h : Sum.elim f g q = r) : g t = r := by subst e; exact h
theorem gloop_s {σ ρ : Type} {body : σ → Option (σ ⊕ ρ)} {n : Nat} {s : σ} {r : ρ} (h : gloop body (n + 1) s = some r) : ∃ o, body s = some o ∧ (∀ t, o = .inl t → gloop body n t = some r) ∧ (∀ q, o = .inr q → q = r) := by
  obtain ⟨o, h1, h2⟩ := gbind_e (h : (body s).bind (fun o => Sum.elim (fun t => gloop body n t) (fun r => some r) o) = some r)
  refine ⟨o, h1, fun t e => ?_, fun q e => ?_⟩
  · subst e; exact h2
  · subst e; exact Option.some.inj h2
theorem gloop_0 {σ ρ : Type} {body : σ → Option (σ ⊕ ρ)} {s : σ} {r : ρ} (h : gloop body 0 s = some r) : False := by cases h
theorem gIn_v {i : Int32} {n : Nat} (h : gIn i n) : vp_in i n := by
  rintro (q | q)
  · exact absurd h.1 (Int32.not_le.mpr q)
  · exact absurd h.2 (Nat.not_lt.mpr q)
theorem b2i_nar (b : Bool) : narrow .boolean (.int (b2i b)) = .int (b2i b) := by cases b <;> rfl
theorem i2b_e {x : Int32} {b : Bool} (h : i2b x = some b) : x = b2i b := by
  unfold i2b at h
  by_cases c : x = 0
  · rw [if_pos c] at h; cases h; exact c
  · rw [if_neg c] at h
    by_cases d : x = 1
    · rw [if_pos d] at h; cases h; exact d
    · rw [if_neg d] at h; cases h
/-! what lies in the heap -/
def gV (ad : Nat → Nat) (f : Nat → Int32) (g : Nat → Int64) : List Nat → Nat → List Value
  | [], _ => []
  | 0 :: r, i => .int (f i) :: gV ad f g r (i + 1)
  | 1 :: r, i => .long (g i) :: gV ad f g r (i + 1)
  | (j + 2) :: r, i => .ref (ad j) :: gV ad f g r (i + 1)
def gDesc (k : Nat) : (Nat × Nat) ⊕ (Nat × List Nat) := gDescL.getD k (.inl (0, 0))
def gE (cy : Nat → ClassId) (ad : Nat → Nat) (μ : gM) (k : Nat) : va_E := match gDesc k with
  | .inl (t, n) => .inl (cy t, (n, if t = 1 then .inr (.inl (μ.2 k)) else .inl (μ.1 k)))
  | .inr (ci, fs) => .inr (ci, gV ad (μ.1 k) (μ.2 k) fs 0)
def gws (L : List Nat) (cy : Nat → ClassId) (ad : Nat → Nat) (μ : gM) : va_W := L.map (fun k => (ad k, gE cy ad μ k))
/-- where the objects may lie (from base.1 on), and what else lies there, which the class doesn't touch -/
abbrev gBs : Type := Nat × va_W
abbrev gA (base : gBs) : Nat → Prop := fun q => base.1 ≤ q
abbrev gT (cy : Nat → ClassId) : List (ClassId × FieldType) := [(cy 0, .int), (cy 1, .long), (cy 2, .byte), (cy 3, .boolean), (cy 4, .object "java/lang/Object"), (cy 5, .array .int)]
def gW (L : List Nat) (D : va_G) (cy : Nat → ClassId) (ad : Nat → Nat) (base : gBs) (μ : gM) (H : Heap) : Prop := va_P D vwCl (gws L cy ad μ ++ base.2) H ∧ va_D (gA base) (gws L cy ad μ ++ base.2)
theorem gws_get0 {L : List Nat} {cy : Nat → ClassId} {ad : Nat → Nat} {μ : gM} {q k : Nat} (hq : L[q]? = some k) : (gws L cy ad μ)[q]? = some (ad k, gE cy ad μ k) := by
  unfold gws
  rw [List.getElem?_map, hq]
  rfl
theorem gws_lt {L : List Nat} {cy : Nat → ClassId} {ad : Nat → Nat} {μ : gM} {q k : Nat} (hq : L[q]? = some k) : q < (gws L cy ad μ).length := (List.getElem?_eq_some_iff.mp (gws_get0 (cy := cy) (ad := ad) (μ := μ) hq)).1
theorem gws_get {X : va_W} {L : List Nat} {cy : Nat → ClassId} {ad : Nat → Nat} {μ : gM} {q k : Nat} (hq : L[q]? = some k) : (gws L cy ad μ ++ X)[q]? = some (ad k, gE cy ad μ k) := by
  rw [List.getElem?_append_left (gws_lt hq)]
  exact gws_get0 hq
theorem gws_set {X : va_W} {L : List Nat} {cy : Nat → ClassId} {ad : Nat → Nat} {base : gBs} {μ μ' : gM} {q k : Nat} {x : va_E} (hD : va_D (gA base) (gws L cy ad μ ++ X)) (hq : L[q]? = some k) (he : gE cy ad μ' k = x) (ho : ∀ j, j ≠ k → gE cy ad μ' j = gE cy ad μ j) : (gws L cy ad μ ++ X).set q (ad k, x) = gws L cy ad μ' ++ X := by
  have hlt : q < (gws L cy ad μ).length := gws_lt hq
  rw [List.set_append_left _ _ hlt]
  congr 1
  apply List.ext_getElem?
  intro i
  rw [List.getElem?_set]
  by_cases c : q = i
  · subst c
    rw [if_pos rfl, if_pos hlt, gws_get0 hq, he]
  · rw [if_neg c]
    cases hi : L[i]? with
    | none =>
      unfold gws
      rw [List.getElem?_map, List.getElem?_map, hi]
      rfl
    | some j =>
      rw [gws_get0 hi, gws_get0 hi]
      have hne : j ≠ k := by
        intro e
        subst e
        exact c (hD.1 q i _ _ (gws_get hq) (gws_get hi) rfl)
      rw [ho j hne]
theorem gE_si {cy : Nat → ClassId} {ad : Nat → Nat} {μ : gM} {k i : Nat} {v : Int32} (j : Nat) (h : j ≠ k) : gE cy ad (si μ k i v) j = gE cy ad μ j := by
  have e1 : (si μ k i v).1 j = μ.1 j := by
    funext b
    show (if j = k ∧ b = i then v else μ.1 j b) = _
    rw [if_neg (fun q => h q.1)]
  unfold gE
  rw [e1]
  rfl
theorem gE_sl {cy : Nat → ClassId} {ad : Nat → Nat} {μ : gM} {k i : Nat} {v : Int64} (j : Nat) (h : j ≠ k) : gE cy ad (sl μ k i v) j = gE cy ad μ j := by
  have e1 : (sl μ k i v).2 j = μ.2 j := by
    funext b
    show (if j = k ∧ b = i then v else μ.2 j b) = _
    rw [if_neg (fun q => h q.1)]
  unfold gE
  rw [e1]
  rfl
theorem gE_cpl {cy : Nat → ClassId} {ad : Nat → Nat} {μ : gM} {k k1 p1 p2 n : Nat} (j : Nat) (h : j ≠ k) : gE cy ad (cpl μ k1 k p1 p2 n) j = gE cy ad μ j := by
  have e1 : (cpl μ k1 k p1 p2 n).2 j = μ.2 j := by
    funext b
    show (if j = k ∧ p2 ≤ b ∧ b < p2 + n then _ else μ.2 j b) = _
    rw [if_neg (fun q => h q.1)]
  unfold gE
  rw [e1]
  rfl
theorem gE_arr {cy : Nat → ClassId} {ad : Nat → Nat} {μ : gM} {k t n : Nat} (hd : gDesc k = .inl (t, n)) (ht : t ≠ 1) : gE cy ad μ k = .inl (cy t, (n, .inl (μ.1 k))) := by
  unfold gE
  rw [hd]
  show Sum.inl (cy t, (n, if t = 1 then _ else _)) = _
  rw [if_neg ht]
theorem gE_arl {cy : Nat → ClassId} {ad : Nat → Nat} {μ : gM} {k n : Nat} (hd : gDesc k = .inl (1, n)) : gE cy ad μ k = .inl (cy 1, (n, .inr (.inl (μ.2 k)))) := by
  unfold gE
  rw [hd]
  rfl
theorem gE_obj {cy : Nat → ClassId} {ad : Nat → Nat} {μ : gM} {k ci : Nat} {fs : List Nat} (hd : gDesc k = .inr (ci, fs)) : gE cy ad μ k = .inr (ci, gV ad (μ.1 k) (μ.2 k) fs 0) := by
  unfold gE
  rw [hd]
theorem si_self {μ : gM} {k i : Nat} {v : Int32} : (si μ k i v).1 k = upd (μ.1 k) i v := by
  funext b
  show (if k = k ∧ b = i then v else μ.1 k b) = upd (μ.1 k) i v b
  unfold upd
  by_cases c : b = i
  · rw [if_pos ⟨rfl, c⟩, if_pos c]
  · rw [if_neg (fun q => c q.2), if_neg c]
theorem sl_self {μ : gM} {k i : Nat} {v : Int64} : (sl μ k i v).2 k = vp_updL (μ.2 k) i v := by
  funext b
  show (if k = k ∧ b = i then v else μ.2 k b) = vp_updL (μ.2 k) i v b
  unfold vp_updL
  by_cases c : b = i
  · rw [if_pos ⟨rfl, c⟩, if_pos c]
  · rw [if_neg (fun q => c q.2), if_neg c]
theorem gV_set (ad : Nat → Nat) (g : Nat → Int64) (v : Int32) : ∀ (fs : List Nat) (f : Nat → Int32) (i k : Nat), fs[k]? = some 0 → (gV ad f g fs i).set k (.int v) = gV ad (upd f (i + k) v) g fs i := by
  intro fs
  have keep : ∀ (fs : List Nat) (f : Nat → Int32) (a i : Nat), a < i → gV ad (upd f a v) g fs i = gV ad f g fs i := by
    intro fs
    induction fs with
    | nil => intros; rfl
    | cons x r ih =>
      intro f a i h
      match x with
      | 0 =>
        show Value.int (upd f a v i) :: gV ad (upd f a v) g r (i + 1) = .int (f i) :: gV ad f g r (i + 1)
        rw [ih f a (i + 1) (by omega), pk_un (by omega)]
      | 1 =>
        show Value.long (g i) :: gV ad (upd f a v) g r (i + 1) = .long (g i) :: gV ad f g r (i + 1)
        rw [ih f a (i + 1) (by omega)]
      | j + 2 =>
        show Value.ref (ad j) :: gV ad (upd f a v) g r (i + 1) = .ref (ad j) :: gV ad f g r (i + 1)
        rw [ih f a (i + 1) (by omega)]
  induction fs with
  | nil => intro f i k h; simp at h
  | cons x r ih =>
    intro f i k h
    match k with
    | 0 =>
      have hx : x = 0 := by simpa using h
      subst hx
      show Value.int v :: gV ad f g r (i + 1) = Value.int (upd f (i + 0) v i) :: gV ad (upd f (i + 0) v) g r (i + 1)
      rw [keep r f (i + 0) (i + 1) (by omega)]
      rw [show i + 0 = i from rfl, pk_us]
    | k + 1 =>
      have h2 : r[k]? = some 0 := by simpa using h
      have e := ih f (i + 1) k h2
      have ee : i + 1 + k = i + (k + 1) := by omega
      match x with
      | 0 =>
        show Value.int (f i) :: (gV ad f g r (i + 1)).set k (.int v) = Value.int (upd f (i + (k + 1)) v i) :: gV ad (upd f (i + (k + 1)) v) g r (i + 1)
        rw [e, ee, pk_un (by omega)]
      | 1 =>
        show Value.long (g i) :: (gV ad f g r (i + 1)).set k (.int v) = Value.long (g i) :: gV ad (upd f (i + (k + 1)) v) g r (i + 1)
        rw [e, ee]
      | j + 2 =>
        show Value.ref (ad j) :: (gV ad f g r (i + 1)).set k (.int v) = Value.ref (ad j) :: gV ad (upd f (i + (k + 1)) v) g r (i + 1)
        rw [e, ee]
theorem gV_setL (ad : Nat → Nat) (f : Nat → Int32) (v : Int64) : ∀ (fs : List Nat) (g : Nat → Int64) (i k : Nat), fs[k]? = some 1 → (gV ad f g fs i).set k (.long v) = gV ad f (vp_updL g (i + k) v) fs i := by
  intro fs
  have keep : ∀ (fs : List Nat) (g : Nat → Int64) (a i : Nat), a < i → gV ad f (vp_updL g a v) fs i = gV ad f g fs i := by
    intro fs
    induction fs with
    | nil => intros; rfl
    | cons x r ih =>
      intro g a i h
      match x with
      | 0 =>
        show Value.int (f i) :: gV ad f (vp_updL g a v) r (i + 1) = .int (f i) :: gV ad f g r (i + 1)
        rw [ih g a (i + 1) (by omega)]
      | 1 =>
        show Value.long (vp_updL g a v i) :: gV ad f (vp_updL g a v) r (i + 1) = .long (g i) :: gV ad f g r (i + 1)
        rw [ih g a (i + 1) (by omega), pk_uLn (by omega)]
      | j + 2 =>
        show Value.ref (ad j) :: gV ad f (vp_updL g a v) r (i + 1) = .ref (ad j) :: gV ad f g r (i + 1)
        rw [ih g a (i + 1) (by omega)]
  induction fs with
  | nil => intro g i k h; simp at h
  | cons x r ih =>
    intro g i k h
    match k with
    | 0 =>
      have hx : x = 1 := by simpa using h
      subst hx
      show Value.long v :: gV ad f g r (i + 1) = Value.long (vp_updL g (i + 0) v i) :: gV ad f (vp_updL g (i + 0) v) r (i + 1)
      rw [keep r g (i + 0) (i + 1) (by omega)]
      rw [show i + 0 = i from rfl, pk_uLs]
    | k + 1 =>
      have h2 : r[k]? = some 1 := by simpa using h
      have e := ih g (i + 1) k h2
      have ee : i + 1 + k = i + (k + 1) := by omega
      match x with
      | 0 =>
        show Value.int (f i) :: (gV ad f g r (i + 1)).set k (.long v) = Value.int (f i) :: gV ad f (vp_updL g (i + (k + 1)) v) r (i + 1)
        rw [e, ee]
      | 1 =>
        show Value.long (g i) :: (gV ad f g r (i + 1)).set k (.long v) = Value.long (vp_updL g (i + (k + 1)) v i) :: gV ad f (vp_updL g (i + (k + 1)) v) r (i + 1)
        rw [e, ee, pk_uLn (by omega)]
      | j + 2 =>
        show Value.ref (ad j) :: (gV ad f g r (i + 1)).set k (.long v) = Value.ref (ad j) :: gV ad f (vp_updL g (i + (k + 1)) v) r (i + 1)
        rw [e, ee]
def gStAt (i : Nat) : String × String × String × FieldType × List Int32 := gSt.getD i ("", "", "", .int, [])
def sc (i j : Nat) : Int32 := (gStAt i).2.2.2.2.getD j 0
def gStA (i : Nat) (ad : Nat → Nat) (base : gBs) (s : State) (H : Heap) : Prop := va_Z (gStAt i).1 (gStAt i).2.1 (gStAt i).2.2.1 (.ref (ad (100 + i))) (gA base) s H ∧ va_T (gStAt i).2.2.2.1 (ad (100 + i)) (gStAt i).2.2.2.2.length (fun j => .int (sc i j)) (gA base) s H
def gNest (s : State) : Prop := va_Nw (.methodLinkNest RX3 70 yX7_isIndex RX7) s ∧ va_Nw (.fieldLinkNest RX3 67 RX7 "INITIAL_SETTING" "[I" RX7) s ∧ va_Nw (.fieldLinkNest RX4 163 RX7 "LEAST_NUMBER" "[I" RX7) s ∧ va_Nw (.fieldLinkNest RX4 166 RX7 "GREATEST_NUMBER" "[I" RX7) s ∧ va_Nw (.fieldLinkNest RX4 187 RX7 "LEAST_SETTING" "[I" RX7) s ∧ va_Nw (.fieldLinkNest RX4 190 RX7 "GREATEST_SETTING" "[I" RX7) s
def gEnv (l : Launch) (D : va_G) (cy : Nat → ClassId) (ad : Nat → Nat) (base : gBs) (s : State) : Prop :=
  va_K D vwCl (gT cy) s ∧ (∀ w, gw w → ∀ a : Array Value, w.before a s = true) ∧ (∀ i, i < 14 → gStA i ad base s s.heap) ∧ gNest s
theorem gEnv.kw {l : Launch} {D : va_G} {cy : Nat → ClassId} {ad : Nat → Nat} {base : gBs} {s : State} (E : gEnv l D cy ad base s) {w : Cond} (h : gw w) {a : Array Value} : w.before a s = true := E.2.1 w h a
theorem gEnv.to {l : Launch} {D : va_G} {cy : Nat → ClassId} {ad : Nat → Nat} {base : gBs} {s U : State} (hW : s.WarmedH U.vm) (hq : ∀ q : Nat, q < s.heap.size → ¬ gA base q → U.heap[q]? = s.heap[q]?) (E : gEnv l D cy ad base s) : gEnv l D cy ad base U := by
  obtain ⟨h1, h2, h3, n1, n2, n3, n4, n5, n6⟩ := E
  refine ⟨va_K.moved hW.alike h1, fun w hw a => word_at hW (good_of_word hw.2) (h2 w hw a), fun i hi => ?_, ⟨va_Nw.warmM hW n1, va_Nw.warmF hW n2, va_Nw.warmF hW n3, va_Nw.warmF hW n4, va_Nw.warmF hW n5, va_Nw.warmF hW n6⟩⟩
  obtain ⟨a1, a2⟩ := h3 i hi
  exact ⟨(va_Z.moved hW.alike a1).kept hq, (va_T.moved hW.alike a2).kept hq⟩
def gB (l : Launch) (L : List Nat) (D : va_G) (cy : Nat → ClassId) (ad : Nat → Nat) (base : gBs) (μ : gM) (U : State) : Prop := gEnv l D cy ad base U ∧ gW L D cy ad base μ U.heap
def gQ (rv : Option Value) (L : List Nat) (D : va_G) (cy : Nat → ClassId) (ad : Nat → Nat) (base : gBs) (μ : gM) : Array Value → State → Outcome → State → Prop := fun _ st o t =>
  o = .returned rv ∧ gW L D cy ad base μ t.heap ∧ st.heap.size ≤ t.heap.size ∧ ∀ q : Nat, q < st.heap.size → ¬ gA base q → t.heap[q]? = st.heap[q]?
theorem gB_blind {l : Launch} {L : List Nat} {D : va_G} {cy : Nat → ClassId} {ad : Nat → Nat} {base : gBs} {μ : gM} {av : List Value} : FrameBlind (va_Pc av (gB l L D cy ad base μ)) := fun a U g mk q =>
  ⟨q.1, gEnv.to (s := U) (U := U.calling g mk a) (State.WarmedH.refl U) (fun _ _ _ => rfl) q.2.1, q.2.2⟩
theorem gB_at {l : Launch} {L : List Nat} {D : va_G} {cy : Nat → ClassId} {ad : Nat → Nat} {base : gBs} {μ : gM} {av : List Value} {s : State} {H : Heap} {locs : List Loc} (E : gEnv l D cy ad base s) (hM : gW L D cy ad base μ H) (hS : va_S (gA base) s.heap H locs) : ∀ U : State, U.heap = H → s.WarmedH U.vm → va_Pc av (gB l L D cy ad base μ) av.toArray U := fun U hU hW =>
  ⟨rfl, gEnv.to hW (fun q h1 h2 => by rw [hU]; exact hS.2.1 q h1 h2) E, by rw [hU]; exact hM⟩
def gF (p : Program) (s : State) (m : MethodId) (meth : Method) (c : Code) (cc : ByteArray) (own : String) (nL : Nat) (ret : Option FieldType) : Prop :=
  p.tables.exec = Jvm.exec ∧ c.code = cc ∧ c.maxLocals = nL ∧ s.vm.findClass own = some m.cls ∧ meth.locks = false ∧ meth.sig.returnType = ret
def gYV (y : MethodName) (cc : ByteArray) (nL : Nat) (ret : Option FieldType) (n : Nat) : Prop := gw (.code y cc nL ret) ∧ gw (.initialized y.cls) ∧ gw (.instanceMethod y) ∧ gw (.selects y.cls y y) ∧ (y.cls ≠ "java/lang/invoke/MethodHandle" ∧ y.cls ≠ "java/lang/invoke/VarHandle") ∧ (parseMethodDescriptor y.desc).map (fun d => d.parameters.length) = some n
def gYS (y : MethodName) (cc : ByteArray) (nL : Nat) (ret : Option FieldType) (n : Nat) : Prop := gw (.code y cc nL ret) ∧ gw (.initialized y.cls) ∧ gw (.static y) ∧ (y.cls ≠ "java/lang/invoke/MethodHandle" ∧ y.cls ≠ "java/lang/invoke/VarHandle") ∧ (parseMethodDescriptor y.desc).map (fun d => d.parameters.length) = some n
theorem gel_n {α β : Type} {q : Option α} {a r : β} {f : α → β} (e : q = none) (h : Option.elim q a f = r) : a = r := by subst e; exact h
theorem gel_s {α β : Type} {q : Option α} {v : α} {a r : β} {f : α → β} (e : q = some v) (h : Option.elim q a f = r) : f v = r := by subst e; exact h
theorem g_sw3 {x : Int32} (c0 : ¬ x = 0) (c1 : ¬ x = 1) (c2 : ¬ x = 2) : x.toInt < 0 ∨ 2 < x.toInt := by
  have e0 : x.toInt ≠ 0 := fun h => c0 (Int32.toInt_inj.mp (h.trans (by decide)))
  have e1 : x.toInt ≠ 1 := fun h => c1 (Int32.toInt_inj.mp (h.trans (by decide)))
  have e2 : x.toInt ≠ 2 := fun h => c2 (Int32.toInt_inj.mp (h.trans (by decide)))
  omega
theorem g_sw6 {x : Int32} (c0 : ¬ x = 0) (c1 : ¬ x = 1) (c2 : ¬ x = 2) (c3 : ¬ x = 3) (c4 : ¬ x = 4) (c5 : ¬ x = 5) : x.toInt < 0 ∨ 5 < x.toInt := by
  have e3 : x.toInt ≠ 3 := fun h => c3 (Int32.toInt_inj.mp (h.trans (by decide)))
  have e4 : x.toInt ≠ 4 := fun h => c4 (Int32.toInt_inj.mp (h.trans (by decide)))
  have e5 : x.toInt ≠ 5 := fun h => c5 (Int32.toInt_inj.mp (h.trans (by decide)))
  have h := g_sw3 c0 c1 c2
  omega
theorem g_sw7 {x : Int32} (c0 : ¬ x = 0) (c1 : ¬ x = 1) (c2 : ¬ x = 2) (c3 : ¬ x = 3) (c4 : ¬ x = 4) (c5 : ¬ x = 5) (c6 : ¬ x = 6) : x.toInt < 0 ∨ 6 < x.toInt := by
  have e6 : x.toInt ≠ 6 := fun h => c6 (Int32.toInt_inj.mp (h.trans (by decide)))
  have h := g_sw6 c0 c1 c2 c3 c4 c5
  omega
section GROWS
variable {p : Program} {l : Launch} {e : Env} {R : Room} {s : State} {m : MethodId} {args : Array Value} {below : List Frame} {meth : Method} {c : Code} {H : Heap} {locs : List Loc} {cells slots : Nat} {Q : State → Prop}
variable {cc : ByteArray} {pc : Nat} {ls : Array Slot} {rest : List Value} {L : List Nat} {D : va_G} {cy : Nat → ClassId} {ad : Nat → Nat} {base : gBs} {μ μ' : gM} {own : String}
theorem gF_of {y : MethodName} {S : Spec} {nL : Nat} {ret : Option FieldType} {s₁ : State} (B : BodyLoose p l y S cc nL ret e s m args below meth c s₁) (hml : c.maxLocals = nL) : gF p s m meth c cc y.cls nL ret :=
  ⟨B.exec, B.bytes, hml, findClass_of_methodNamed B.named, B.notSynchronized, B.returns⟩
theorem g_get (hx : p.tables.exec = Jvm.exec) (hb : c.code = cc) (hown : s.vm.findClass own = some m.cls) (E : gEnv l D cy ad base s) (hM : gW L D cy ad base μ H) {q k ci N idx : Nat} {fs : List Nat} {C : String} {T : u_T} {ty0 : Nat → FieldType} (hk : L[q]? = some k) (hd : gDesc k = .inr (ci, fs)) (hC : gC ci C T N ty0) (f : Nat) (hf : f < N) {v : Value} (hv : (gV ad (μ.1 k) (μ.2 k) fs 0)[f]? = some v) (hl : gw (.fieldLink own idx (T f).1 (T f).2.1 (T f).2.2.1)) (hdg : decode cc pc = .ok (.getfield idx, 3))
    (kk : W p l e R s m args below meth c H locs cells slots Q (F0 m (pc + 3) ls (v :: rest))) : W p l e R s m args below meth c H locs cells slots Q (F0 m pc ls (.ref (ad k) :: rest)) :=
  va_get (D := D) (ci := ci) (v := v) (C := C) (T := T) (N := N) hx hb (Ts := u_ws C T N) (fun w hw => E.kw (hC.2.1 w hw)) (fun _ h => h) hown E.1 hM.1 q (by rw [gws_get hk, gE_obj hd]) hC.1 f hf (E.kw hl) (fun _ h9 => h9) hv hdg kk
theorem g_put (hx : p.tables.exec = Jvm.exec) (hb : c.code = cc) (hown : s.vm.findClass own = some m.cls) (E : gEnv l D cy ad base s) (hM : gW L D cy ad base μ H) (hS : va_S (gA base) s.heap H locs) {q k ci N idx : Nat} {fs : List Nat} {C : String} {T : u_T} {ty0 : Nat → FieldType} (hk : L[q]? = some k) (hd : gDesc k = .inr (ci, fs)) (hC : gC ci C T N ty0) (f : Nat) (hf : f < N) (h0 : fs[f]? = some 0) {v : Int32} {ty : FieldType} (hfin : (T f).2.2.2 = false) (hp : parseFieldDescriptor (T f).2.2.1 = some ty) (hn : narrow ty (.int v) = .int v) (hfit : fits ty (.int v) = true) (hl : gw (.fieldLink own idx (T f).1 (T f).2.1 (T f).2.2.1)) (hlen : f < (gV ad (μ.1 k) (μ.2 k) fs 0).length) (hdg : decode cc pc = .ok (.putfield idx, 3))
    (kk : ∀ (H1 : Heap) (locs1 : List Loc), gW L D cy ad base (si μ k f v) H1 → va_S (gA base) s.heap H1 locs1 → W p l e R s m args below meth c H1 locs1 cells slots Q (F0 m (pc + 3) ls rest)) : W p l e R s m args below meth c H locs cells slots Q (F0 m pc ls (.int v :: .ref (ad k) :: rest)) := by
  refine va_put (D := D) (ci := ci) (v := .int v) (ty := ty) (C := C) (T := T) (N := N) hx hb (Ts := u_ws C T N) (fun w hw => E.kw (hC.2.1 w hw)) (fun _ h => h) ty0 hC.2.2.1 hC.2.2.2 hown E.1 hM.1 hM.2 hS q (by rw [gws_get hk, gE_obj hd]) hC.1 f hf (E.kw hl) (fun _ h9 => h9) hfin hp hn hfit hlen hdg (fun H1 locs1 hP1 hD1 hS1 => ?_)
  have e1 : (gws L cy ad μ ++ base.2).set q (ad k, .inr (ci, (gV ad (μ.1 k) (μ.2 k) fs 0).set f (.int v))) = gws L cy ad (si μ k f v) ++ base.2 := by
    refine gws_set hM.2 hk ?_ (fun j hj => gE_si j hj)
    rw [gE_obj hd, si_self, gV_set ad _ v fs _ 0 f h0, Nat.zero_add]
    rfl
  rw [e1] at hP1 hD1
  exact kk H1 locs1 ⟨hP1, hD1⟩ hS1
theorem g_putL (hx : p.tables.exec = Jvm.exec) (hb : c.code = cc) (hown : s.vm.findClass own = some m.cls) (E : gEnv l D cy ad base s) (hM : gW L D cy ad base μ H) (hS : va_S (gA base) s.heap H locs) {q k ci N idx : Nat} {fs : List Nat} {C : String} {T : u_T} {ty0 : Nat → FieldType} (hk : L[q]? = some k) (hd : gDesc k = .inr (ci, fs)) (hC : gC ci C T N ty0) (f : Nat) (hf : f < N) (h0 : fs[f]? = some 1) {v : Int64} {ty : FieldType} (hfin : (T f).2.2.2 = false) (hp : parseFieldDescriptor (T f).2.2.1 = some ty) (hn : narrow ty (.long v) = .long v) (hfit : fits ty (.long v) = true) (hl : gw (.fieldLink own idx (T f).1 (T f).2.1 (T f).2.2.1)) (hlen : f < (gV ad (μ.1 k) (μ.2 k) fs 0).length) (hdg : decode cc pc = .ok (.putfield idx, 3))
    (kk : ∀ (H1 : Heap) (locs1 : List Loc), gW L D cy ad base (sl μ k f v) H1 → va_S (gA base) s.heap H1 locs1 → W p l e R s m args below meth c H1 locs1 cells slots Q (F0 m (pc + 3) ls rest)) : W p l e R s m args below meth c H locs cells slots Q (F0 m pc ls (.long v :: .ref (ad k) :: rest)) := by
  refine va_put (D := D) (ci := ci) (v := .long v) (ty := ty) (C := C) (T := T) (N := N) hx hb (Ts := u_ws C T N) (fun w hw => E.kw (hC.2.1 w hw)) (fun _ h => h) ty0 hC.2.2.1 hC.2.2.2 hown E.1 hM.1 hM.2 hS q (by rw [gws_get hk, gE_obj hd]) hC.1 f hf (E.kw hl) (fun _ h9 => h9) hfin hp hn hfit hlen hdg (fun H1 locs1 hP1 hD1 hS1 => ?_)
  have e1 : (gws L cy ad μ ++ base.2).set q (ad k, .inr (ci, (gV ad (μ.1 k) (μ.2 k) fs 0).set f (.long v))) = gws L cy ad (sl μ k f v) ++ base.2 := by
    refine gws_set hM.2 hk ?_ (fun j hj => gE_sl j hj)
    rw [gE_obj hd, sl_self, gV_setL ad _ v fs _ 0 f h0, Nat.zero_add]
    rfl
  rw [e1] at hP1 hD1
  exact kk H1 locs1 ⟨hP1, hD1⟩ hS1
theorem g_iald (hx : p.tables.exec = Jvm.exec) (hb : c.code = cc) (E : gEnv l D cy ad base s) (hM : gW L D cy ad base μ H) {q k n : Nat} (hk : L[q]? = some k) (hd : gDesc k = .inl (0, n)) {i : Int32} (hin : gIn i n) (hdg : decode cc pc = .ok (.iaload, 1))
    (kk : W p l e R s m args below meth c H locs cells slots Q (F0 m (pc + 1) ls (.int (gi μ k i.toNatClampNeg) :: rest))) : W p l e R s m args below meth c H locs cells slots Q (F0 m pc ls (.int i :: .ref (ad k) :: rest)) :=
  va_iald (f := μ.1 k) hx hb E.1 hM.1 q 0 (by rw [gws_get hk, gE_arr hd (by decide)]) rfl (gIn_v hin) hdg kk
theorem g_bald (hx : p.tables.exec = Jvm.exec) (hb : c.code = cc) (E : gEnv l D cy ad base s) (hM : gW L D cy ad base μ H) {q k n : Nat} (hk : L[q]? = some k) (hd : gDesc k = .inl (2, n)) {i : Int32} (hin : gIn i n) (hdg : decode cc pc = .ok (.baload, 1))
    (kk : W p l e R s m args below meth c H locs cells slots Q (F0 m (pc + 1) ls (.int (gi μ k i.toNatClampNeg) :: rest))) : W p l e R s m args below meth c H locs cells slots Q (F0 m pc ls (.int i :: .ref (ad k) :: rest)) :=
  va_bald (f := μ.1 k) hx hb E.1 hM.1 q 2 (by rw [gws_get hk, gE_arr hd (by decide)]) rfl (gIn_v hin) hdg kk
theorem g_zald (hx : p.tables.exec = Jvm.exec) (hb : c.code = cc) (E : gEnv l D cy ad base s) (hM : gW L D cy ad base μ H) {q k n : Nat} (hk : L[q]? = some k) (hd : gDesc k = .inl (3, n)) {i : Int32} (hin : gIn i n) (hdg : decode cc pc = .ok (.baload, 1))
    (kk : W p l e R s m args below meth c H locs cells slots Q (F0 m (pc + 1) ls (.int (gi μ k i.toNatClampNeg) :: rest))) : W p l e R s m args below meth c H locs cells slots Q (F0 m pc ls (.int i :: .ref (ad k) :: rest)) :=
  va_zald (f := μ.1 k) hx hb E.1 hM.1 q 3 (by rw [gws_get hk, gE_arr hd (by decide)]) rfl (gIn_v hin) hdg kk
theorem g_lald (hx : p.tables.exec = Jvm.exec) (hb : c.code = cc) (E : gEnv l D cy ad base s) (hM : gW L D cy ad base μ H) {q k n : Nat} (hk : L[q]? = some k) (hd : gDesc k = .inl (1, n)) {i : Int32} (hin : gIn i n) (hdg : decode cc pc = .ok (.laload, 1))
    (kk : W p l e R s m args below meth c H locs cells slots Q (F0 m (pc + 1) ls (.long (gl μ k i.toNatClampNeg) :: rest))) : W p l e R s m args below meth c H locs cells slots Q (F0 m pc ls (.int i :: .ref (ad k) :: rest)) :=
  va_lald (f := μ.2 k) hx hb E.1 hM.1 q 1 (by rw [gws_get hk, gE_arl hd]) rfl (gIn_v hin) hdg kk
theorem g_alen (hx : p.tables.exec = Jvm.exec) (hb : c.code = cc) (E : gEnv l D cy ad base s) (hM : gW L D cy ad base μ H) {q k t n : Nat} {ty : FieldType} (hk : L[q]? = some k) (hd : gDesc k = .inl (t, n)) (ht : t ≠ 1) (hty : (gT cy)[t]? = some (cy t, ty)) {v : Int32} (hv : Int32.ofNat n = v) (hdg : decode cc pc = .ok (.arraylength, 1))
    (kk : W p l e R s m args below meth c H locs cells slots Q (F0 m (pc + 1) ls (.int v :: rest))) : W p l e R s m args below meth c H locs cells slots Q (F0 m pc ls (.ref (ad k) :: rest)) :=
  va_alen hx hb E.1 hM.1 q t (by rw [gws_get hk, gE_arr hd ht]) hty hv hdg kk
theorem gW_si {q k t n i : Nat} {v : Int32} {H1 : Heap} (hM : gW L D cy ad base μ H) (hk : L[q]? = some k) (hd : gDesc k = .inl (t, n)) (ht : t ≠ 1) (hP1 : va_P D vwCl ((gws L cy ad μ ++ base.2).set q (ad k, .inl (cy t, n, .inl (upd (μ.1 k) i v)))) H1) (hD1 : va_D (gA base) ((gws L cy ad μ ++ base.2).set q (ad k, .inl (cy t, n, .inl (upd (μ.1 k) i v))))) : gW L D cy ad base (si μ k i v) H1 := by
  have e1 : (gws L cy ad μ ++ base.2).set q (ad k, .inl (cy t, n, .inl (upd (μ.1 k) i v))) = gws L cy ad (si μ k i v) ++ base.2 :=
    gws_set hM.2 hk (by rw [gE_arr hd ht, si_self]) (fun j hj => gE_si j hj)
  rw [e1] at hP1 hD1
  exact ⟨hP1, hD1⟩
theorem g_iast (hx : p.tables.exec = Jvm.exec) (hb : c.code = cc) (E : gEnv l D cy ad base s) (hM : gW L D cy ad base μ H) (hS : va_S (gA base) s.heap H locs) {q k n : Nat} (hk : L[q]? = some k) (hd : gDesc k = .inl (0, n)) {i x : Int32} (hin : gIn i n) (hdg : decode cc pc = .ok (.iastore, 1))
    (kk : ∀ (H1 : Heap) (locs1 : List Loc), gW L D cy ad base (si μ k i.toNatClampNeg x) H1 → va_S (gA base) s.heap H1 locs1 → W p l e R s m args below meth c H1 locs1 cells slots Q (F0 m (pc + 1) ls rest)) : W p l e R s m args below meth c H locs cells slots Q (F0 m pc ls (.int x :: .int i :: .ref (ad k) :: rest)) :=
  va_iast hx hb E.1 hM.1 hM.2 hS q 0 (by rw [gws_get hk, gE_arr hd (by decide)]) rfl (gIn_v hin) hdg (fun H1 locs1 hP1 hD1 hS1 => kk H1 locs1 (gW_si hM hk hd (by decide) hP1 hD1) hS1)
theorem g_bast (hx : p.tables.exec = Jvm.exec) (hb : c.code = cc) (E : gEnv l D cy ad base s) (hM : gW L D cy ad base μ H) (hS : va_S (gA base) s.heap H locs) {q k n : Nat} (hk : L[q]? = some k) (hd : gDesc k = .inl (2, n)) {i x : Int32} (hin : gIn i n) (hdg : decode cc pc = .ok (.bastore, 1))
    (kk : ∀ (H1 : Heap) (locs1 : List Loc), gW L D cy ad base (si μ k i.toNatClampNeg (vp_nar .byte x)) H1 → va_S (gA base) s.heap H1 locs1 → W p l e R s m args below meth c H1 locs1 cells slots Q (F0 m (pc + 1) ls rest)) : W p l e R s m args below meth c H locs cells slots Q (F0 m pc ls (.int x :: .int i :: .ref (ad k) :: rest)) :=
  va_bast hx hb E.1 hM.1 hM.2 hS q 2 (by rw [gws_get hk, gE_arr hd (by decide)]) rfl (gIn_v hin) hdg (fun H1 locs1 hP1 hD1 hS1 => kk H1 locs1 (gW_si hM hk hd (by decide) hP1 hD1) hS1)
theorem g_zast (hx : p.tables.exec = Jvm.exec) (hb : c.code = cc) (E : gEnv l D cy ad base s) (hM : gW L D cy ad base μ H) (hS : va_S (gA base) s.heap H locs) {q k n : Nat} (hk : L[q]? = some k) (hd : gDesc k = .inl (3, n)) {i x : Int32} (hin : gIn i n) (hdg : decode cc pc = .ok (.bastore, 1))
    (kk : ∀ (H1 : Heap) (locs1 : List Loc), gW L D cy ad base (si μ k i.toNatClampNeg (vp_nar .boolean x)) H1 → va_S (gA base) s.heap H1 locs1 → W p l e R s m args below meth c H1 locs1 cells slots Q (F0 m (pc + 1) ls rest)) : W p l e R s m args below meth c H locs cells slots Q (F0 m pc ls (.int x :: .int i :: .ref (ad k) :: rest)) :=
  va_zast hx hb E.1 hM.1 hM.2 hS q 3 (by rw [gws_get hk, gE_arr hd (by decide)]) rfl (gIn_v hin) hdg (fun H1 locs1 hP1 hD1 hS1 => kk H1 locs1 (gW_si hM hk hd (by decide) hP1 hD1) hS1)
theorem g_last (hx : p.tables.exec = Jvm.exec) (hb : c.code = cc) (E : gEnv l D cy ad base s) (hM : gW L D cy ad base μ H) (hS : va_S (gA base) s.heap H locs) {q k n : Nat} (hk : L[q]? = some k) (hd : gDesc k = .inl (1, n)) {i : Int32} {x : Int64} (hin : gIn i n) (hdg : decode cc pc = .ok (.lastore, 1))
    (kk : ∀ (H1 : Heap) (locs1 : List Loc), gW L D cy ad base (sl μ k i.toNatClampNeg x) H1 → va_S (gA base) s.heap H1 locs1 → W p l e R s m args below meth c H1 locs1 cells slots Q (F0 m (pc + 1) ls rest)) : W p l e R s m args below meth c H locs cells slots Q (F0 m pc ls (.long x :: .int i :: .ref (ad k) :: rest)) := by
  refine va_last hx hb E.1 hM.1 hM.2 hS q 1 (by rw [gws_get hk, gE_arl hd]) rfl (gIn_v hin) hdg (fun H1 locs1 hP1 hD1 hS1 => kk H1 locs1 ?_ hS1)
  have e1 : (gws L cy ad μ ++ base.2).set q (ad k, .inl (cy 1, n, .inr (.inl (vp_updL (μ.2 k) i.toNatClampNeg x)))) = gws L cy ad (sl μ k i.toNatClampNeg x) ++ base.2 :=
    gws_set hM.2 hk (by rw [gE_arl hd, sl_self]) (fun j hj => gE_sl j hj)
  rw [e1] at hP1 hD1
  exact ⟨hP1, hD1⟩
theorem g_gets (hx : p.tables.exec = Jvm.exec) (hb : c.code = cc) (hown : s.vm.findClass own = some m.cls) (E : gEnv l D cy ad base s) (hS : va_S (gA base) s.heap H locs) (i : Nat) {idx : Nat} {C n d : String} {ty : FieldType} {xs : List Int32} (hi : i < 14) (hs : gStAt i = (C, n, d, ty, xs)) (hl : gw (.fieldLink own idx C n d)) (hdg : decode cc pc = .ok (.getstatic idx, 3))
    (kk : W p l e R s m args below meth c H locs cells slots Q (F0 m (pc + 3) ls (.ref (ad (100 + i)) :: rest))) : W p l e R s m args below meth c H locs cells slots Q (F0 m pc ls rest) := by
  have h := (E.2.2.1 i hi).1
  rw [hs] at h
  exact va_gets hx hb h hS hown (E.kw hl) (fun _ h9 => h9) hdg kk
theorem g_getsN (hx : p.tables.exec = Jvm.exec) (hb : c.code = cc) (hown : s.vm.findClass own = some m.cls) (E : gEnv l D cy ad base s) (hS : va_S (gA base) s.heap H locs) (i : Nat) {idx : Nat} {C n d host : String} {ty : FieldType} {xs : List Int32} (hi : i < 14) (hs : gStAt i = (C, n, d, ty, xs)) (hl : va_Nw (.fieldLinkNest own idx C n d host) s) (hdg : decode cc pc = .ok (.getstatic idx, 3))
    (kk : W p l e R s m args below meth c H locs cells slots Q (F0 m (pc + 3) ls (.ref (ad (100 + i)) :: rest))) : W p l e R s m args below meth c H locs cells slots Q (F0 m pc ls rest) := by
  have h := (E.2.2.1 i hi).1
  rw [hs] at h
  exact va_getsN hx hb h hS hown (va_Nw.use rfl hl) (fun _ h9 => h9) hdg kk
theorem g_sti (hx : p.tables.exec = Jvm.exec) (hb : c.code = cc) (E : gEnv l D cy ad base s) (hS : va_S (gA base) s.heap H locs) (i : Nat) {n : Nat} (hi : i < 14) (ht : (gStAt i).2.2.2.1 = .int) (hn : (gStAt i).2.2.2.2.length = n) {j : Int32} (hin : gIn j n) (hdg : decode cc pc = .ok (.iaload, 1))
    (kk : W p l e R s m args below meth c H locs cells slots Q (F0 m (pc + 1) ls (.int (sc i j.toNatClampNeg) :: rest))) : W p l e R s m args below meth c H locs cells slots Q (F0 m pc ls (.int j :: .ref (ad (100 + i)) :: rest)) := by
  have h := (E.2.2.1 i hi).2
  rw [ht, hn] at h
  exact va_ti hx hb h hS (gIn_v hin) rfl hdg kk
theorem g_stc (hx : p.tables.exec = Jvm.exec) (hb : c.code = cc) (E : gEnv l D cy ad base s) (hS : va_S (gA base) s.heap H locs) (i : Nat) {n : Nat} (hi : i < 14) (ht : (gStAt i).2.2.2.1 = .char) (hn : (gStAt i).2.2.2.2.length = n) {j : Int32} (hin : gIn j n) (hdg : decode cc pc = .ok (.caload, 1))
    (kk : W p l e R s m args below meth c H locs cells slots Q (F0 m (pc + 1) ls (.int (sc i j.toNatClampNeg) :: rest))) : W p l e R s m args below meth c H locs cells slots Q (F0 m pc ls (.int j :: .ref (ad (100 + i)) :: rest)) := by
  have h := (E.2.2.1 i hi).2
  rw [ht, hn] at h
  exact va_tc hx hb h hS (gIn_v hin) rfl hdg kk
theorem g_stl (hx : p.tables.exec = Jvm.exec) (hb : c.code = cc) (E : gEnv l D cy ad base s) (hS : va_S (gA base) s.heap H locs) (i : Nat) {n : Nat} (hi : i < 14) (hn : (gStAt i).2.2.2.2.length = n) {v : Int32} (hv : Int32.ofNat n = v) (hdg : decode cc pc = .ok (.arraylength, 1))
    (kk : W p l e R s m args below meth c H locs cells slots Q (F0 m (pc + 1) ls (.int v :: rest))) : W p l e R s m args below meth c H locs cells slots Q (F0 m pc ls (.ref (ad (100 + i)) :: rest)) := by
  have h := (E.2.2.1 i hi).2
  rw [hn] at h
  exact va_tlen hx hb h hS hv hdg kk
theorem g_S_call {st t : State} {Lc : List Loc} (hS : va_S (gA base) s.heap H locs) (h0 : st.heap = H) (hz : st.heap.size ≤ t.heap.size) (hq : ∀ q : Nat, q < st.heap.size → ¬ gA base q → t.heap[q]? = st.heap[q]?) (hL : ∀ q ∈ Lc, gA base q.base) : va_S (gA base) s.heap t.heap (locs ++ Lc) := by
  subst h0
  refine ⟨Nat.le_trans hS.1 hz, fun q h1 h2 => (hq q (Nat.lt_of_lt_of_le h1 hS.1) h2).trans (hS.2.1 q h1 h2), fun x hx => ?_⟩
  rcases List.mem_append.mp hx with h | h
  · exact hS.2.2 x h
  · exact hL x h
/-- a call of an instance method: its contract takes the memory to μ', its answer is rv -/
theorem g_callV (hx : p.tables.exec = Jvm.exec) (hb : c.code = cc) (hml : c.maxLocals = ls.size) (hown : s.vm.findClass own = some m.cls) (E : gEnv l D cy ad base s) (hM : gW L D cy ad base μ H) (hS : va_S (gA base) s.heap H locs) {y : MethodName} {bytes : ByteArray} {maxL n idx q k ci N fr lo : Nat} {ret : Option FieldType} {rv : Option Value} {As : List Value} {fs : List Nat} {T : u_T} {st : List Value} (hy : gYV y bytes maxL ret n) (hl : gw (.methodLink own idx y))
    (hMt : Met l y [.code y bytes maxL ret] ({ frames := fr, cells := 0, slots := 0, locals := lo }) (va_Pc (.ref (ad k) :: As) (gB l L D cy ad base μ)) (gQ rv L D cy ad base μ') 0 0 (gA base))
    (hk : L[q]? = some k) (hd : gDesc k = .inr (ci, fs)) (hC : vwCl[ci]? = some (y.cls, T, N)) (hn : As.length = n) (hst : st = As.reverse ++ .ref (ad k) :: rest) (hroom : (rest.map fun v => v.category).sum ≤ 8) (hR : fr + 1 ≤ R.frames ∧ 8 + (maxL + 11) + lo ≤ R.locals) (hcs : cells ≤ R.cells ∧ slots ≤ R.slots) (hdg : decode cc pc = .ok (.invokevirtual idx, 3))
    (kk : ∀ (H1 : Heap) (locs1 : List Loc), gW L D cy ad base μ' H1 → va_S (gA base) s.heap H1 locs1 → W p l e R s m args below meth c H1 locs1 cells slots Q (F0 m (pc + 3) ls (rv.toList ++ rest))) : W p l e R s m args below meth c H locs cells slots Q (F0 m pc ls st) := by
  subst hst
  intro T0 hT X
  obtain ⟨y1, y2, y3, y4, y5, y6⟩ := hy
  have cb : CallB R s args own idx y bytes maxL ret [.code y bytes maxL ret] ({ frames := fr, cells := 0, slots := 0, locals := lo }) 0 0 n :=
    ⟨rfl, rfl, hR.1, hR.2, (fun w hw a' U hW => by rw [List.mem_singleton.mp hw]; exact word_at hW (good_of_word y1.2) (E.kw y1 (a := #[]))), List.mem_cons_self, E.kw y1, E.kw y2, y5, (fun sig h => by rw [h] at y6; exact (Option.some.inj y6).symm), E.kw hl⟩
  obtain ⟨cellB, g1, g2, g3⟩ := va_recv E.1 hM.1 hC (by rw [gws_get hk, gE_obj hd])
  obtain ⟨v, st₀, t, T', L9, h0, X', hL, e1, ⟨hv, hW', hz, hq⟩, st⟩ := W.runV (As := As) (rest := rest) (b := ad k) (C := y.cls) (own := own) (Ts := []) (nL := ls.size) ⟨hx, hb, hml, hown, fun _ h => nomatch h⟩ hMt ⟨cb, E.kw y3, E.kw y4⟩ ⟨gB_blind, ⟨cellB, g1, g2, g3⟩, gB_at E hM hS⟩ (g := F0 m pc ls (As.reverse ++ .ref (ad k) :: rest)) rfl hn rfl rfl (lv_room hroom) hdg ⟨hcs.1, hcs.2⟩ T0 hT X
  cases hv
  obtain ⟨t2, a1, b1⟩ := kk t.heap (locs ++ L9) hW' (g_S_call hS h0 hz hq hL) T' e1 X'
  exact ⟨t2, st t2 a1, b1⟩
theorem g_callS (hx : p.tables.exec = Jvm.exec) (hb : c.code = cc) (hml : c.maxLocals = ls.size) (hown : s.vm.findClass own = some m.cls) (E : gEnv l D cy ad base s) (hM : gW L D cy ad base μ H) (hS : va_S (gA base) s.heap H locs) {y : MethodName} {bytes : ByteArray} {maxL n idx fr lo : Nat} {ret : Option FieldType} {rv : Option Value} {As : List Value} {st : List Value} (hy : gYS y bytes maxL ret n) (hl : gw (.methodLink own idx y))
    (hMt : Met l y [.code y bytes maxL ret] ({ frames := fr, cells := 0, slots := 0, locals := lo }) (va_Pc As (gB l L D cy ad base μ)) (gQ rv L D cy ad base μ') 0 0 (gA base))
    (hn : As.length = n) (hst : st = As.reverse ++ rest) (hroom : (rest.map fun v => v.category).sum ≤ 8) (hR : fr + 1 ≤ R.frames ∧ 8 + (maxL + 11) + lo ≤ R.locals) (hcs : cells ≤ R.cells ∧ slots ≤ R.slots) (hdg : decode cc pc = .ok (.invokestatic idx, 3))
    (kk : ∀ (H1 : Heap) (locs1 : List Loc), gW L D cy ad base μ' H1 → va_S (gA base) s.heap H1 locs1 → W p l e R s m args below meth c H1 locs1 cells slots Q (F0 m (pc + 3) ls (rv.toList ++ rest))) : W p l e R s m args below meth c H locs cells slots Q (F0 m pc ls st) := by
  subst hst
  intro T0 hT X
  obtain ⟨y1, y2, y3, y5, y6⟩ := hy
  have cb : CallB R s args own idx y bytes maxL ret [.code y bytes maxL ret] ({ frames := fr, cells := 0, slots := 0, locals := lo }) 0 0 n :=
    ⟨rfl, rfl, hR.1, hR.2, (fun w hw a' U hW => by rw [List.mem_singleton.mp hw]; exact word_at hW (good_of_word y1.2) (E.kw y1 (a := #[]))), List.mem_cons_self, E.kw y1, E.kw y2, y5, (fun sig h => by rw [h] at y6; exact (Option.some.inj y6).symm), E.kw hl⟩
  obtain ⟨v, st₀, t, T', L9, h0, X', hL, e1, ⟨hv, hW', hz, hq⟩, st⟩ := W.runS (As := As) (rest := rest) (own := own) (Ts := []) (nL := ls.size) ⟨hx, hb, hml, hown, fun _ h => nomatch h⟩ hMt ⟨cb, E.kw y3⟩ ⟨gB_blind, gB_at E hM hS⟩ (g := F0 m pc ls (As.reverse ++ rest)) rfl hn rfl rfl (lv_room hroom) hdg ⟨hcs.1, hcs.2⟩ T0 hT X
  cases hv
  obtain ⟨t2, a1, b1⟩ := kk t.heap (locs ++ L9) hW' (g_S_call hS h0 hz hq hL) T' e1 X'
  exact ⟨t2, st t2 a1, b1⟩
theorem g_iret {v : Int32} (hx : p.tables.exec = Jvm.exec) (hb : c.code = cc) (hr : meth.sig.returnType = some .int) (hlocks : meth.locks = false) (hM : gW L D cy ad base μ H) (hS : va_S (gA base) s.heap H locs) (hdg : decode cc pc = .ok (.ireturn, 1)) : W p l e R s m args below meth c H locs cells slots (MQ below (gQ (some (.int v)) L D cy ad base μ) args s cells slots (gA base)) (F0 m pc ls [.int v]) :=
  W.iret hx hb hr (fun t ht hW => ⟨rfl, by rw [ht]; exact hM, by rw [ht]; exact hS.1, by rw [ht]; exact hS.2.1⟩) hS.2.2 hdg hlocks
theorem g_zret {v : Int32} (hx : p.tables.exec = Jvm.exec) (hb : c.code = cc) (hr : meth.sig.returnType = some .boolean) (hlocks : meth.locks = false) (hn : narrow .boolean (.int v) = .int v) (hM : gW L D cy ad base μ H) (hS : va_S (gA base) s.heap H locs) (hdg : decode cc pc = .ok (.ireturn, 1)) : W p l e R s m args below meth c H locs cells slots (MQ below (gQ (some (.int v)) L D cy ad base μ) args s cells slots (gA base)) (F0 m pc ls [.int v]) :=
  W.zret hx hb hr hn (fun t ht hW => ⟨rfl, by rw [ht]; exact hM, by rw [ht]; exact hS.1, by rw [ht]; exact hS.2.1⟩) hS.2.2 hdg hlocks
theorem g_lret {v : Int64} (hx : p.tables.exec = Jvm.exec) (hb : c.code = cc) (hr : meth.sig.returnType = some .long) (hlocks : meth.locks = false) (hM : gW L D cy ad base μ H) (hS : va_S (gA base) s.heap H locs) (hdg : decode cc pc = .ok (.lreturn, 1)) : W p l e R s m args below meth c H locs cells slots (MQ below (gQ (some (.long v)) L D cy ad base μ) args s cells slots (gA base)) (F0 m pc ls [.long v]) :=
  W.lret hx hb hr (fun t ht hW => ⟨rfl, by rw [ht]; exact hM, by rw [ht]; exact hS.1, by rw [ht]; exact hS.2.1⟩) hS.2.2 hdg hlocks
theorem g_vret (hx : p.tables.exec = Jvm.exec) (hb : c.code = cc) (hr : meth.sig.returnType = none) (hlocks : meth.locks = false) (hM : gW L D cy ad base μ H) (hS : va_S (gA base) s.heap H locs) (hdg : decode cc pc = .ok (.return_, 1)) : W p l e R s m args below meth c H locs cells slots (MQ below (gQ none L D cy ad base μ) args s cells slots (gA base)) (F0 m pc ls []) :=
  W.vret hx hb hr (fun t ht hW => ⟨rfl, by rw [ht]; exact hM, by rw [ht]; exact hS.1, by rw [ht]; exact hS.2.1⟩) hS.2.2 hdg hlocks
theorem g_callSN (hx : p.tables.exec = Jvm.exec) (hb : c.code = cc) (hml : c.maxLocals = ls.size) (hown : s.vm.findClass own = some m.cls) (E : gEnv l D cy ad base s) (hM : gW L D cy ad base μ H) (hS : va_S (gA base) s.heap H locs) {y : MethodName} {bytes : ByteArray} {maxL n idx fr lo : Nat} {ret : Option FieldType} {rv : Option Value} {As : List Value} {st : List Value} {host : String} (hy : gYS y bytes maxL ret n) (hl : va_Nw (.methodLinkNest own idx y host) s)
    (hMt : Met l y [.code y bytes maxL ret] ({ frames := fr, cells := 0, slots := 0, locals := lo }) (va_Pc As (gB l L D cy ad base μ)) (gQ rv L D cy ad base μ') 0 0 (gA base))
    (hn : As.length = n) (hst : st = As.reverse ++ rest) (hroom : (rest.map fun v => v.category).sum ≤ 8) (hR : fr + 1 ≤ R.frames ∧ 8 + (maxL + 11) + lo ≤ R.locals) (hcs : cells ≤ R.cells ∧ slots ≤ R.slots) (hdg : decode cc pc = .ok (.invokestatic idx, 3))
    (kk : ∀ (H1 : Heap) (locs1 : List Loc), gW L D cy ad base μ' H1 → va_S (gA base) s.heap H1 locs1 → W p l e R s m args below meth c H1 locs1 cells slots Q (F0 m (pc + 3) ls (rv.toList ++ rest))) : W p l e R s m args below meth c H locs cells slots Q (F0 m pc ls st) := by
  subst hst
  intro T0 hT X
  obtain ⟨y1, y2, y3, y5, y6⟩ := hy
  have cb : va_CN R s args own idx y host bytes maxL ret [.code y bytes maxL ret] ({ frames := fr, cells := 0, slots := 0, locals := lo }) 0 0 n :=
    ⟨⟨rfl, rfl, hR.1, hR.2, (fun w hw a' U hW => by rw [List.mem_singleton.mp hw]; exact word_at hW (good_of_word y1.2) (E.kw y1 (a := #[]))), List.mem_cons_self⟩, E.kw y1, E.kw y2, y5, (fun sig h => by rw [h] at y6; exact (Option.some.inj y6).symm), va_Nw.use rfl hl⟩
  obtain ⟨v, st₀, t, T', L9, h0, X', hL, e1, e2, ⟨hv, hW', hz, hq⟩, st⟩ := va_runSN (As := As) (rest := rest) (own := own) (Ts := []) (nL := ls.size) ⟨hx, hb, hml, hown, fun _ h => nomatch h⟩ hMt ⟨cb, E.kw y3, True.intro⟩ ⟨gB_blind, gB_at E hM hS⟩ (g := F0 m pc ls (As.reverse ++ rest)) rfl hn rfl rfl (lv_room hroom) hdg ⟨hcs.1, hcs.2⟩ T0 hT X
  cases hv
  obtain ⟨t2, a1, b1⟩ := kk t.heap (locs ++ L9) hW' (g_S_call hS h0 hz hq hL) T' e1 X'
  exact ⟨t2, st t2 a1, b1⟩
theorem g_cpl (hx : p.tables.exec = Jvm.exec) (hb : c.code = cc) (hml : c.maxLocals = ls.size) (hown : s.vm.findClass own = some m.cls) (E : gEnv l D cy ad base s) (hM : gW L D cy ad base μ H) (hS : va_S (gA base) s.heap H locs) {q0 q1 k0 k1 n0 n1 idx : Nat} (hk0 : L[q0]? = some k0) (hk1 : L[q1]? = some k1) (hd0 : gDesc k0 = .inl (1, n0)) (hd1 : gDesc k1 = .inl (1, n1)) (hl : gw (.methodLink own idx arraycopyName)) (hst : gw (.static arraycopyName)) (hnat : gw (.native arraycopyName)) (hini : gw (.initialized "java/lang/System")) {sp dp n : Int32} (h1 : ¬ sp < 0) (h2 : ¬ dp < 0) (h3 : ¬ n < 0) (h4 : sp.toNatClampNeg + n.toNatClampNeg ≤ n0) (h5 : dp.toNatClampNeg + n.toNatClampNeg ≤ n1) (hRf : 1 ≤ R.frames) (hRl : (rest.map fun v => v.category).sum + (nativeFrameWords "java/lang/System" "arraycopy" 5 + 11) ≤ R.locals) (hdg : decode cc pc = .ok (.invokestatic idx, 3))
    (kk : ∀ (H1 : Heap) (locs1 : List Loc), gW L D cy ad base (cpl μ k0 k1 sp.toNatClampNeg dp.toNatClampNeg n.toNatClampNeg) H1 → va_S (gA base) s.heap H1 locs1 → W p l e R s m args below meth c H1 locs1 cells slots Q (F0 m (pc + 3) ls rest)) : W p l e R s m args below meth c H locs cells slots Q (F0 m pc ls (.int n :: .int dp :: .ref (ad k1) :: .int sp :: .ref (ad k0) :: rest)) := by
  refine va_copyl (f := μ.2 k0) (g := μ.2 k1) hx hb hml hown (E.kw hl) (E.kw hnat) (E.kw hst) (E.kw hini) E.1 hM.1 hM.2 hS q0 q1 1 1 (by rw [gws_get hk0, gE_arl hd0]) (by rw [gws_get hk1, gE_arl hd1]) rfl rfl rfl h1 h2 h3 h4 h5 (fun _ _ => rfl) hRf hRl hdg (fun H1 locs1 hP1 hD1 hS1 => kk H1 locs1 ?_ hS1)
  have e1 : (gws L cy ad μ ++ base.2).set q1 (ad k1, .inl (cy 1, n1, .inr (.inl (va_cpy (μ.2 k0) (μ.2 k1) sp.toNatClampNeg dp.toNatClampNeg n.toNatClampNeg)))) = gws L cy ad (cpl μ k0 k1 sp.toNatClampNeg dp.toNatClampNeg n.toNatClampNeg) ++ base.2 := by
    refine gws_set hM.2 hk1 ?_ (fun j hj => gE_cpl j hj)
    rw [gE_arl hd1]
    have e2 : (cpl μ k0 k1 sp.toNatClampNeg dp.toNatClampNeg n.toNatClampNeg).2 k1 = va_cpy (μ.2 k0) (μ.2 k1) sp.toNatClampNeg dp.toNatClampNeg n.toNatClampNeg := by
      funext b
      show (if k1 = k1 ∧ _ ∧ _ then _ else _) = (if _ ∧ _ then _ else _)
      by_cases cb : dp.toNatClampNeg ≤ b ∧ b < dp.toNatClampNeg + n.toNatClampNeg
      · rw [if_pos ⟨rfl, cb.1, cb.2⟩, if_pos cb]
      · rw [if_neg (fun w => cb w.2), if_neg cb]
    rw [e2]
  rw [e1] at hP1 hD1
  exact ⟨hP1, hD1⟩
end GROWS

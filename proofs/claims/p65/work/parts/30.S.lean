def sw (k : Nat) : Nat := if 34 ≤ k ∧ k < 47 then k + 13 else if 47 ≤ k ∧ k < 60 then k - 13 else k
def msw (μ : gM) : gM := (fun k => μ.1 (sw k), fun k => μ.2 (sw k))
theorem sw_sw (k : Nat) : sw (sw k) = k := by unfold sw; (repeat' split) <;> omega
theorem sw_fix {k : Nat} (h : k < 34 ∨ 60 ≤ k) : sw k = k := by unfold sw; (repeat' split) <;> omega
theorem sw_lt {k : Nat} (h : k < 60) : sw k < 60 := by unfold sw; (repeat' split) <;> omega
theorem sw_ge {k : Nat} (h : 60 ≤ k) : sw k = k := sw_fix (Or.inr (by omega))
abbrev fsw1 (ad : Nat → Nat) (μ : gM) : List Value := (gV ad (μ.1 0) (μ.2 0) [3, 5, 8, 22, 30, 36, 49, 0] 0).set 5 (.ref (ad 47))
abbrev fsw2 (ad : Nat → Nat) (μ : gM) : List Value := (fsw1 ad μ).set 6 (.ref (ad 34))
abbrev wsw1 (cy : Nat → ClassId) (ad : Nat → Nat) (μ : gM) : va_W := (gws gFull cy ad μ).set 0 (ad 0, .inr (7, fsw1 ad μ))
abbrev wsw2 (cy : Nat → ClassId) (ad : Nat → Nat) (μ : gM) : va_W := (wsw1 cy ad μ).set 0 (ad 0, .inr (7, fsw2 ad μ))
set_option maxRecDepth 100000 in
theorem gsw_lt {cy : Nat → ClassId} {ad : Nat → Nat} {μ : gM} (k : Nat) (h : k < 60) : (gws gFull cy (fun k => ad (sw k)) (msw μ))[k]? = (wsw2 cy ad μ)[sw k]? := by
  match k, h with
  | 0, _ => rfl
  | 1, _ => rfl
  | 2, _ => rfl
  | 3, _ => rfl
  | 4, _ => rfl
  | 5, _ => rfl
  | 6, _ => rfl
  | 7, _ => rfl
  | 8, _ => rfl
  | 9, _ => rfl
  | 10, _ => rfl
  | 11, _ => rfl
  | 12, _ => rfl
  | 13, _ => rfl
  | 14, _ => rfl
  | 15, _ => rfl
  | 16, _ => rfl
  | 17, _ => rfl
  | 18, _ => rfl
  | 19, _ => rfl
  | 20, _ => rfl
  | 21, _ => rfl
  | 22, _ => rfl
  | 23, _ => rfl
  | 24, _ => rfl
  | 25, _ => rfl
  | 26, _ => rfl
  | 27, _ => rfl
  | 28, _ => rfl
  | 29, _ => rfl
  | 30, _ => rfl
  | 31, _ => rfl
  | 32, _ => rfl
  | 33, _ => rfl
  | 34, _ => rfl
  | 35, _ => rfl
  | 36, _ => rfl
  | 37, _ => rfl
  | 38, _ => rfl
  | 39, _ => rfl
  | 40, _ => rfl
  | 41, _ => rfl
  | 42, _ => rfl
  | 43, _ => rfl
  | 44, _ => rfl
  | 45, _ => rfl
  | 46, _ => rfl
  | 47, _ => rfl
  | 48, _ => rfl
  | 49, _ => rfl
  | 50, _ => rfl
  | 51, _ => rfl
  | 52, _ => rfl
  | 53, _ => rfl
  | 54, _ => rfl
  | 55, _ => rfl
  | 56, _ => rfl
  | 57, _ => rfl
  | 58, _ => rfl
  | 59, _ => rfl
  | k + 60, h => exact absurd h (by omega)
theorem gfl {cy : Nat → ClassId} {ad : Nat → Nat} {μ : gM} : (gws gFull cy ad μ).length = 60 := by unfold gws; rw [List.length_map]; rfl
theorem wsl {cy : Nat → ClassId} {ad : Nat → Nat} {μ : gM} : (wsw2 cy ad μ).length = 60 := by unfold wsw2 wsw1; rw [List.length_set, List.length_set]; exact gfl
theorem gsw_at {Y : va_W} {cy : Nat → ClassId} {ad : Nat → Nat} {μ : gM} (k : Nat) : (gws gFull cy (fun k => ad (sw k)) (msw μ) ++ Y)[k]? = (wsw2 cy ad μ ++ Y)[sw k]? := by
  rcases Nat.lt_or_ge k 60 with h | h
  · rw [List.getElem?_append_left (by rw [gfl]; exact h), List.getElem?_append_left (by rw [wsl]; exact sw_lt h)]
    exact gsw_lt k h
  · rw [sw_ge h, List.getElem?_append_right (by rw [gfl]; exact h), List.getElem?_append_right (by rw [wsl]; exact h), gfl, wsl]
theorem gW_sw {D : va_G} {cy : Nat → ClassId} {ad : Nat → Nat} {base : gBs} {μ : gM} {H : Heap} (hP : va_P D vwCl (wsw2 cy ad μ ++ base.2) H) (hD : va_D (gA base) (wsw2 cy ad μ ++ base.2)) : gW gFull D cy (fun k => ad (sw k)) base (msw μ) H := by
  refine ⟨fun k q hq => hP (sw k) q (by rw [← gsw_at]; exact hq), fun i j p q hi hj e => ?_, fun k q hq => hD.2 (sw k) q (by rw [← gsw_at]; exact hq)⟩
  have h := hD.1 (sw i) (sw j) p q (by rw [← gsw_at]; exact hi) (by rw [← gsw_at]; exact hj) e
  rw [← sw_sw i, h, sw_sw]
theorem gEnv.sw {l : Launch} {D : va_G} {cy : Nat → ClassId} {ad ad2 : Nat → Nat} {base : gBs} {s : State} (E : gEnv l D cy ad base s) (had : ∀ k, k < 34 ∨ 60 ≤ k → ad2 k = ad k) : gEnv l D cy ad2 base s := by
  refine ⟨E.1, E.2.1, fun i hi => ?_, E.2.2.2⟩
  have h := E.2.2.1 i hi
  unfold gStA at h ⊢
  rw [had (100 + i) (Or.inr (by omega))]
  exact h
/-- what load owes: the two networks may have changed places -/
def gQL (rv : Option Value) (D : va_G) (cy : Nat → ClassId) (ad : Nat → Nat) (base : gBs) (μ : gM) : Array Value → State → Outcome → State → Prop := fun _ st o t =>
  o = .returned rv ∧ (∃ ad2 : Nat → Nat, (∀ k, k < 34 ∨ 60 ≤ k → ad2 k = ad k) ∧ gW gFull D cy ad2 base μ t.heap) ∧ st.heap.size ≤ t.heap.size ∧ ∀ q : Nat, q < st.heap.size → ¬ gA base q → t.heap[q]? = st.heap[q]?
section GSW
variable {p : Program} {l : Launch} {e : Env} {R : Room} {s : State} {m : MethodId} {args : Array Value} {below : List Frame} {meth : Method} {c : Code} {H : Heap} {locs : List Loc} {cells slots : Nat} {Q : State → Prop}
variable {cc : ByteArray} {pc : Nat} {ls : Array Slot} {rest : List Value} {D : va_G} {cy : Nat → ClassId} {ad ad2 : Nat → Nat} {base : gBs} {μ μ' : gM} {own : String}
theorem g_iretL {v : Int32} (had : ∀ k, k < 34 ∨ 60 ≤ k → ad2 k = ad k) (hx : p.tables.exec = Jvm.exec) (hb : c.code = cc) (hr : meth.sig.returnType = some .int) (hlocks : meth.locks = false) (hM : gW gFull D cy ad2 base μ H) (hS : va_S (gA base) s.heap H locs) (hdg : decode cc pc = .ok (.ireturn, 1)) : W p l e R s m args below meth c H locs cells slots (MQ below (gQL (some (.int v)) D cy ad base μ) args s cells slots (gA base)) (F0 m pc ls [.int v]) :=
  W.iret hx hb hr (fun t ht hW => ⟨rfl, ⟨ad2, had, by rw [ht]; exact hM⟩, by rw [ht]; exact hS.1, by rw [ht]; exact hS.2.1⟩) hS.2.2 hdg hlocks
theorem g_swap (hx : p.tables.exec = Jvm.exec) (hb : c.code = cc) (hown : s.vm.findClass own = some m.cls) (E : gEnv l D cy ad base s) (hM : gW gFull D cy ad base μ H) (hS : va_S (gA base) s.heap H locs) {i1 i2 : Nat} (hl1 : gw (.fieldLink own i1 "LevelNetwork" "net" "LLevelNetwork$Network;")) (hl2 : gw (.fieldLink own i2 "LevelNetwork" "draft" "LLevelNetwork$Network;"))
    (h0 : ls[0]? = some (.val (.ref (ad 0)))) (h3 : ls[3]? = some (.val (.ref (ad 34)))) (d1 : decode cc pc = .ok (.putfield i1, 3)) (d2 : decode cc (pc + 3) = .ok (.aload_n 0, 1)) (d3 : decode cc (pc + 4) = .ok (.aload_n 3, 1)) (d4 : decode cc (pc + 5) = .ok (.putfield i2, 3))
    (kk : ∀ (ad2 : Nat → Nat) (H1 : Heap) (locs1 : List Loc), (∀ k, k < 34 ∨ 60 ≤ k → ad2 k = ad k) → gW gFull D cy ad2 base (msw μ) H1 → va_S (gA base) s.heap H1 locs1 → W p l e R s m args below meth c H1 locs1 cells slots Q (F0 m (pc + 8) ls rest)) : W p l e R s m args below meth c H locs cells slots Q (F0 m pc ls (.ref (ad 47) :: .ref (ad 0) :: rest)) := by
  have e0 : (gws gFull cy ad μ ++ base.2)[0]? = some (ad 0, .inr (7, gV ad (μ.1 0) (μ.2 0) [3, 5, 8, 22, 30, 36, 49, 0] 0)) := rfl
  refine va_put (D := D) (ci := 7) (v := .ref (ad 47)) (C := RX7) (T := TX7) (N := 8) hx hb (Ts := u_ws RX7 TX7 8) (fun w hw => E.kw (gC_X7.2.1 w hw)) (fun _ h => h) tyX7 gC_X7.2.2.1 gC_X7.2.2.2 hown E.1 hM.1 hM.2 hS 0 e0 gC_X7.1 5 (by decide) (E.kw hl1) (fun _ h9 => h9) rfl (tyX7_ok 5 (by decide)) rfl rfl (Nat.le_of_ble_eq_true rfl) d1 (fun H1 locs1 hP1 hD1 hS1 => ?_)
  refine lv_aload_n hx hb d2 rfl h0 ?_
  refine lv_aload_n hx hb d3 rfl h3 ?_
  have f1 : (gws gFull cy ad μ ++ base.2).set 0 (ad 0, .inr (7, fsw1 ad μ)) = wsw1 cy ad μ ++ base.2 := List.set_append_left _ _ (by rw [gfl]; decide)
  rw [f1] at hP1 hD1
  have e1 : (wsw1 cy ad μ ++ base.2)[0]? = some (ad 0, .inr (7, fsw1 ad μ)) := rfl
  refine va_put (D := D) (ci := 7) (v := .ref (ad 34)) (C := RX7) (T := TX7) (N := 8) (ws := wsw1 cy ad μ ++ base.2) hx hb (Ts := u_ws RX7 TX7 8) (fun w hw => E.kw (gC_X7.2.1 w hw)) (fun _ h => h) tyX7 gC_X7.2.2.1 gC_X7.2.2.2 hown E.1 hP1 hD1 hS1 0 e1 gC_X7.1 6 (by decide) (E.kw hl2) (fun _ h9 => h9) rfl (tyX7_ok 6 (by decide)) rfl rfl (Nat.le_of_ble_eq_true rfl) d4 (fun H2 locs2 hP2 hD2 hS2 => ?_)
  have f2 : (wsw1 cy ad μ ++ base.2).set 0 (ad 0, .inr (7, fsw2 ad μ)) = wsw2 cy ad μ ++ base.2 := List.set_append_left _ _ (by unfold wsw1; rw [List.length_set, gfl]; decide)
  rw [f2] at hP2 hD2
  exact kk (fun k => ad (sw k)) H2 locs2 (fun k hk => by rw [sw_fix hk]) (gW_sw hP2 hD2) hS2
end GSW

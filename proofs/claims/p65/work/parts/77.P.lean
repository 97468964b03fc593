set_option maxHeartbeats 20000000 in
set_option maxRecDepth 100000 in
theorem c_Linit {l : Launch} {D : va_G} {cy : Nat → ClassId} {ad : Nat → Nat} {b a : Nat} {RES : gM × gM} (h : f_L_init (scr ad) = some RES) : Met l yX8_init [.code yX8_init cX8_init 4 none] ({ frames := 8, cells := 1876, slots := 2285440, locals := 202 } : Room) (va_Pc [.ref a, .ref (ad 465)] (gI l D cy ad b [(a, .inr (8, [.null, .int (0 : Int32), .int (0 : Int32), .null, .null, .null, .null, .null, .null, .null, .null, .int (0 : Int32)]))])) (hQ b (fun rv H => rv = none ∧ ∃ f : Nat → Nat, ∃ la : Nat → Nat → Nat, (∀ k, 60 ≤ k → f k = ad k) ∧ la 0 0 = a ∧ lS RES.1 ∧ hW D cy f b RES.2 (lws cy f la RES.1) [] H)) 1876 2285440 (hA b) := by
  refine Met.ofW (cc := cX8_init) (maxL := 4) (ret := none) (by decide +kernel) rfl ?_
  intro p e s m args below meth c s₁ B hml0 hv
  obtain ⟨rfl, E, hP, hD⟩ := hv
  have F : gF p s m meth c cX8_init RX8 4 none := gF_of B hml0
  obtain ⟨hx, hb, hml, hown, hlocks, hr⟩ := id F
  have hin : meth.name = "<init>" := (name_of_methodNamed B.named B.method).1
  have hS : va_S (hA b) s.heap s.heap [] := va_S.rf
  have hl := lv_entry ([.ref a, .ref (ad 465)]) (n := 4) (Nat.le_of_ble_eq_true rfl)
  rw [lg_entry_eq]
  generalize (lg_sl ([.ref a, .ref (ad 465)]) ++ List.replicate (4 - (lg_sl ([.ref a, .ref (ad 465)])).length) Slot.unset).toArray = ls at hl ⊢
  have hl : lv_has ls 4 [(0, .ref a), (1, .ref (ad 465))] := hl
  refine lv_aload_n hx hb dX8_init_0 rfl (lv_at hl 0 rfl) ?_
  refine W.objInit hx hb hown (E.kw kw_160) (E.kw kw_161) (E.kw kw_162) rfl (by rw [hml]; exact hl.1) rfl dX8_init_1 (Nat.le_of_ble_eq_true rfl) (Nat.le_of_ble_eq_true rfl) ?_
  refine W.eq (g2 := F0 m 4 ls []) rfl ?_
  refine lv_aload_n hx hb dX8_init_4 rfl (lv_at hl 0 rfl) ?_
  refine i_new hx hb hown E hP hD hS gC_X7 kw_163 kw_89 kw_51 (fs := [.null, .null, .null, .null, .null, .null, .null, .int 0]) (fun j hj => by match j, hj with | 0, _ => rfl | 1, _ => rfl | 2, _ => rfl | 3, _ => rfl | 4, _ => rfl | 5, _ => rfl | 6, _ => rfl | 7, _ => rfl | k + 8, h9 => exact absurd h9 (by omega)) (Nat.le_of_ble_eq_true rfl) (Nat.le_of_ble_eq_true rfl) dX8_init_5 (fun q H hP hD hS => ?_)
  refine lv_dup hx hb dX8_init_8 rfl ?_
  refine i_callI hx hb (hml.trans hl.1.symm) hown E hP hD hS ⟨kw_166, kw_51, kw_165, gN_X7, by decide +kernel, rfl⟩ kw_164 (k_X7_init (W0 := [(a, .inr (8, [.null, .int (0 : Int32), .int (0 : Int32), .null, .null, .null, .null, .null, .null, .null, .null, .int (0 : Int32)]))])) (Nat.le_of_ble_eq_true rfl) ⟨(Nat.le_of_ble_eq_true rfl), (Nat.le_of_ble_eq_true rfl)⟩ ⟨(Nat.le_of_ble_eq_true rfl), (Nat.le_of_ble_eq_true rfl)⟩ dX8_init_9 (fun ws2 H locs hp hP hD hS => ?_)
  obtain ⟨f, hf, hf0, rfl⟩ := hp
  have hM := hW_raw hP hD
  subst hf0
  have h465 := hf 465 (by decide)
  rw [← h465] at hl
  refine w_Ln_12 (ad := f) (by rw [scr_cg hf]; exact h) F (hE_cg E hf) hin (fun f2 la H h1 h2 h3 h4 => ⟨rfl, f2, la, fun k hk => (h1 k hk).trans (hf k hk), h2, h3, h4⟩) (by simp) (by simp) hM hS hl

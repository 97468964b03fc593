set_option maxHeartbeats 4000000 in
set_option maxRecDepth 100000 in
theorem law_start {p : Program} {l : Launch} {e : Env} {s : State} {m : MethodId} {below : List Frame} {meth : Method} {c : Code} {Q : State → Prop} {b L : Nat} {xs : Nat → Int32} {Rel : gM → Prop} (sim : ∀ μ, Rel μ → ∀ (k : Nat) (s1 s2 s3 s4 s5 : Int32), ∃ μ2, f_case k s1 s2 s3 s4 s5 μ = some μ2 ∧ Rel μ2) {μ1 : gM} (h1 : f_X8_reset_61 gμ0 = some μ1) (h77 : μ1.2 77 = fun _ => 0) (hR : Rel μ1)
    (hflags : l.flags = flags0) (hL : L ≤ 3072) (hx : p.tables.exec = Jvm.exec) (hb : c.code = cL_law) (hml : c.maxLocals = 8) (hown : s.vm.findClass RL = some m.cls) (hts : ∀ w ∈ lw_tbl, w.before #[Value.ref b] s = true) (hX : va_X b L xs s s.heap) (hbl : b < s.heap.size) (hgv : (Jvm.Cond.and given_1 narrow_1).before #[Value.ref b] s = true)
    (kx : ∀ {H : Heap} {locs : List Loc} {ls : Array Slot} {cells slots : Nat}, cells ≤ 1103 → slots ≤ 20535 → va_S (gA s.heap.size) s.heap H locs → W p l e room_1 s m #[Value.ref b] below meth c H locs cells slots Q (F0 m 2770 ls [])) :
    W p l e room_1 s m #[Value.ref b] below meth c s.heap [] 0 0 Q (entryFrame m ([Value.ref b] : List Value).toArray 8) := by
  obtain ⟨D, cy, ad, E⟩ := st_E hflags hts hgv
  have NI := st_NI hts
  have hz : s.heap.size ≤ s.heap.size := Nat.le_refl _
  have hbA : ¬ gA s.heap.size b := Nat.not_le.mpr hbl
  have hS : va_S (gA s.heap.size) s.heap s.heap [] := va_S.rf
  have hP : va_P D vwCl ([] : va_W) s.heap := fun k q h => by simp at h
  have hD : va_D (gA s.heap.size) ([] : va_W) := ⟨fun i j p q h => by simp at h, fun k q h => by simp at h⟩
  have hl := lv_entry ([.ref b]) (n := 8) (Nat.le_of_ble_eq_true rfl)
  rw [lg_entry_eq]
  generalize (lg_sl ([.ref b]) ++ List.replicate (8 - (lg_sl ([.ref b])).length) Slot.unset).toArray = ls at hl ⊢
  have hl : lv_has ls 8 [(0, .ref b)] := hl
  refine i_new hx hb hown E hP hD hS hz gC_X7 kw_122 kw_123 kw_106 (fs := [.null, .null, .null, .null, .null, .null, .null, .int 0]) (fun j hj => by match j, hj with | 0, _ => rfl | 1, _ => rfl | 2, _ => rfl | 3, _ => rfl | 4, _ => rfl | 5, _ => rfl | 6, _ => rfl | 7, _ => rfl | k + 8, h9 => exact absurd h9 (by omega)) (Nat.le_of_ble_eq_true rfl) (Nat.le_of_ble_eq_true rfl) dL_law_0 (fun q H hP hD hS => ?_)
  refine W.widen (k := 1) (n := 8) (Nat.le_of_ble_eq_true rfl) (Nat.le_of_ble_eq_true rfl) ?_
  refine lv_dup hx hb dL_law_3 rfl ?_
  refine i_callI hx hb (hml.trans hl.1.symm) hown E hP hD hS NI hz ⟨kw_126, kw_106, kw_125, gN_X7, by decide +kernel, rfl⟩ kw_124 k_X7_init (Nat.le_of_ble_eq_true rfl) ⟨Nat.le_of_ble_eq_true rfl, Nat.le_of_ble_eq_true rfl⟩ ⟨Nat.le_of_ble_eq_true rfl, Nat.le_of_ble_eq_true rfl⟩ dL_law_4 (fun ws2 H locs hp hP hD hS => ?_)
  obtain ⟨f, hf, rfl, rfl⟩ := hp
  replace E := E.st hf
  refine W.widen (k := 60) (n := 3512) (Nat.le_of_ble_eq_true rfl) (Nat.le_of_ble_eq_true rfl) ?_
  refine lv_astore_n (lv' := [(1, .ref (f 0)), (0, .ref b)]) hx hb dL_law_7 rfl hl (by decide) rfl (fun ls hl => ?_)
  refine i_new hx hb hown E hP hD hS hz gC_X8 kw_1233 kw_1234 kw_114 (fs := [.null, .null, .null, .null, .null, .int 0, .int 0, .null, .null, .null, .int 0, .int 0, .int 0, .int 0, .int 0, .long 0, .int 0, .int 0, .int 0, .int 0, .int 0, .null, .int 0, .int 0, .null, .null, .null, .null, .int 0, .int 0, .null, .int 0, .int 0, .int 0, .null, .null]) (fun j hj => by match j, hj with | 0, _ => rfl | 1, _ => rfl | 2, _ => rfl | 3, _ => rfl | 4, _ => rfl | 5, _ => rfl | 6, _ => rfl | 7, _ => rfl | 8, _ => rfl | 9, _ => rfl | 10, _ => rfl | 11, _ => rfl | 12, _ => rfl | 13, _ => rfl | 14, _ => rfl | 15, _ => rfl | 16, _ => rfl | 17, _ => rfl | 18, _ => rfl | 19, _ => rfl | 20, _ => rfl | 21, _ => rfl | 22, _ => rfl | 23, _ => rfl | 24, _ => rfl | 25, _ => rfl | 26, _ => rfl | 27, _ => rfl | 28, _ => rfl | 29, _ => rfl | 30, _ => rfl | 31, _ => rfl | 32, _ => rfl | 33, _ => rfl | 34, _ => rfl | 35, _ => rfl | k + 36, h9 => exact absurd h9 (by omega)) (Nat.le_of_ble_eq_true rfl) (Nat.le_of_ble_eq_true rfl) dL_law_8 (fun q H hP hD hS => ?_)
  refine W.widen (k := 61) (n := 3548) (Nat.le_of_ble_eq_true rfl) (Nat.le_of_ble_eq_true rfl) ?_
  refine lv_dup hx hb dL_law_11 rfl ?_
  refine i_callI hx hb (hml.trans hl.1.symm) hown E hP hD hS NI hz ⟨kw_1237, kw_114, kw_1236, gN_X8, by decide +kernel, rfl⟩ kw_1235 (k_X8_init h1) (Nat.le_of_ble_eq_true rfl) ⟨Nat.le_of_ble_eq_true rfl, Nat.le_of_ble_eq_true rfl⟩ ⟨Nat.le_of_ble_eq_true rfl, Nat.le_of_ble_eq_true rfl⟩ dL_law_12 (fun ws2 H locs hp hP hD hS => ?_)
  obtain ⟨g, hg, rfl, rfl⟩ := hp
  replace E := E.st (fun k h => hg k (Or.inr h))
  rw [← hg 0 (by omega)] at hl
  refine W.widen (k := 77) (n := 12336) (Nat.le_of_ble_eq_true rfl) (Nat.le_of_ble_eq_true rfl) ?_
  refine lv_astore_n (lv' := [(2, .ref (g 60)), (1, .ref (g 0)), (0, .ref b)]) hx hb dL_law_15 rfl hl (by decide) rfl (fun ls hl => ?_)
  refine lv_iconst (v := (1 : Int32)) hx hb dL_law_16 (by decide) ?_
  refine i_newL hx hb E hP hD hS hz (N := 1) (by decide) (by decide) (by decide) (Nat.le_of_ble_eq_true rfl) (Nat.le_of_ble_eq_true rfl) dL_law_17 (fun q3 H hP hD hS => ?_)
  refine W.widen (k := 78) (n := 12337) (Nat.le_of_ble_eq_true rfl) (Nat.le_of_ble_eq_true rfl) ?_
  obtain ⟨ad3, had⟩ : ∃ ad3 : Nat → Nat, ad3 = fun k => if k = 77 then q3 else g k := ⟨_, rfl⟩
  have e9 : gws gL77 cy g μ1 ++ [(q3, .inl (cy 1, (1, .inr (.inl (fun _ => 0)))))] = gws gFull cy ad3 μ1 := by
    rw [← h77, had]
    rfl
  have hM : gW gFull D cy ad3 s.heap.size μ1 H := ⟨e9 ▸ hP, e9 ▸ hD⟩
  have E3 : gEnv l D cy ad3 s.heap.size s := E.st (fun k h => by rw [had]; exact if_neg (by omega))
  have hl : lv_has ls 8 [(2, .ref (ad3 60)), (1, .ref (ad3 0)), (0, .ref b)] := by rw [had]; exact hl
  have e77 : q3 = ad3 77 := by rw [had]; rfl
  rw [e77]
  refine lv_astore_n (lv' := [(3, .ref (ad3 77)), (2, .ref (ad3 60)), (1, .ref (ad3 0)), (0, .ref b)]) hx hb dL_law_19 rfl hl (by decide) rfl (fun ls hl => ?_)
  refine lv_iconst (v := (0 : Int32)) hx hb dL_law_20 (by decide) ?_
  refine lv_istore (lv' := [(4, .int (Int32.ofNat 0)), (3, .ref (ad3 77)), (2, .ref (ad3 60)), (1, .ref (ad3 0)), (0, .ref b)]) hx hb dL_law_21 hl (by decide) rfl (fun ls hl => ?_)
  exact law_loop sim hL hx hb hml hown hX hbl hbA kx (L + 1) 0 hR (Nat.zero_le _) (by omega) (by omega) (by omega) E3 hM hS (lv_sub hl [4, 3, 2, 1, 0] rfl)

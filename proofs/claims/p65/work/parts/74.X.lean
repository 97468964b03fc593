/-! Net.put: the text is padded and fed, twenty letters at a time -/
def padn (n : Nat) : Nat := (20 - n % 20) % 20
def shv (k : Nat) : Int32 := ((24 : Int32) - (8 : Int32) * nI (k % 4)) &&& 31
/-- five words after k letters from i on -/
def rowv (t : List Nat) (i : Nat) : Nat → Nat → Int32
  | 0 => fun _ => 0
  | k + 1 => upd (rowv t i k) (k / 4) (rowv t i k (k / 4) ||| nI (t.getD (i + k) 0) <<< shv k)
def f_rows (t : List Nat) : Nat → Nat → gM → Option gM
  | 0, _, μ => some μ
  | n + 1, i, μ => Option.bind (f_X7_feed (rowv t i 20 0) (rowv t i 20 1) (rowv t i 20 2) (rowv t i 20 3) (rowv t i 20 4) μ) (fun q => f_rows t n (i + 20) q.2)
def padt (t : List Nat) : List Nat := t ++ List.replicate (padn t.length) 32
def f_put (t : List Nat) (μ : gM) : Option gM := f_rows (padt t) ((padt t).length / 20) 0 μ
theorem padn_0 {n : Nat} (h : n % 20 = 0) : padn n = 0 := by unfold padn; omega
theorem padn_s {n : Nat} (h : n % 20 ≠ 0) : padn n = padn (n + 1) + 1 := by unfold padn; omega
theorem padn_lt {n : Nat} : padn n < 20 := by unfold padn; omega
theorem padt_len {t : List Nat} : (padt t).length = t.length + padn t.length := by unfold padt; rw [List.length_append, List.length_replicate]
theorem padt_20 {t : List Nat} : (padt t).length % 20 = 0 := by rw [padt_len]; unfold padn; omega
theorem padt_s {t : List Nat} (h : t.length % 20 ≠ 0) : padt (t ++ [32]) = padt t := by
  unfold padt
  rw [padn_s h, List.length_append, List.append_assoc, List.singleton_append]
  rfl
theorem padt_0 {t : List Nat} (h : t.length % 20 = 0) : padt t = t := by
  unfold padt
  rw [padn_0 h]
  exact List.append_nil t
theorem padt_b {t : List Nat} (h : ∀ x ∈ t, x < 256) : ∀ x ∈ padt t, x < 256 := by
  intro x hx
  rcases List.mem_append.mp hx with h1 | h1
  · exact h x h1
  · rw [(List.mem_replicate.mp h1).2]; decide
theorem getD_b {t : List Nat} (h : ∀ x ∈ t, x < 256) (i : Nat) : t.getD i 0 < 256 := by
  rw [List.getD_eq_getElem?_getD]
  cases e : t[i]? with
  | none => decide
  | some x => exact h x (List.mem_of_getElem? e)
theorem sTx_3 : sTx 3 = [32] := rfl
/-- a row of n ints comes into being -/
theorem h_newIn {p : Program} {l : Launch} {e : Env} {R : Room} {s : State} {m : MethodId} {args : Array Value} {below : List Frame} {meth : Method} {c : Code} {H : Heap} {locs : List Loc} {cells slots : Nat} {Q : State → Prop} {cc : ByteArray} {pc : Nat} {ls : Array Slot} {rest : List Value} {D : va_G} {cy : Nat → ClassId} {ad : Nat → Nat} {b : Nat} {μ : gM} {P T : va_W} (hx : p.tables.exec = Jvm.exec) (hb : c.code = cc) (E : hE l D cy ad b s) (hM : hW D cy ad b μ P T H) (hS : va_S (hA b) s.heap H locs) (n : Nat) {v : Int32} (hv : v = nI n) (hn : n ≤ 16) (hc : cells + 1 ≤ R.cells) (hs : slots + 16 ≤ R.slots) (hdg : decode cc pc = .ok (.newarray .int, 2))
    (kk : ∀ (q : Nat) (H1 : Heap), hW D cy ad b μ P (T ++ [(q, .inl (cy 0, n, .inl (fun _ => 0)))]) H1 → va_S (hA b) s.heap H1 locs → W p l e R s m args below meth c H1 locs (cells + 1) (slots + 16) Q (F0 m (pc + 2) ls (.ref q :: rest))) : W p l e R s m args below meth c H locs cells slots Q (F0 m pc ls (.int v :: rest)) := by
  subst hv
  refine va_newa (atype := .int) (ty := .int) (a0 := (n, .inl (fun _ => 0))) (N' := n) hx hb (show (Cond.arrayClass (newarray.typeOf .int)).before args s = true from E.kw kw_230) rfl E.1.1 hM.1 hM.2 hS (fun q h => Nat.le_trans E.2.2.1 h) (fun cA => rfl) (nI_pos (by omega)) (nI_clamp (by omega)) (by show n * 4 ≤ _; omega) hc (by omega) hdg (fun q cA H1 hK1 hP1 hD1 hS1 => ?_)
  have e1 : s.vm.findClass ("[" ++ FieldType.int.toString) = some cA := (hK1.2 6 (cA, .int) rfl).2
  have e2 : s.vm.findClass ("[" ++ FieldType.int.toString) = some (cy 0) := (E.1.1.2 0 (cy 0, .int) rfl).2
  obtain rfl : cA = cy 0 := Option.some.inj (e1.symm.trans e2)
  refine W.widen (Nat.le_refl _) (by omega) (kk q H1 ?_ hS1)
  have e3 := ht_push (cy := cy) (ad := ad) (μ := μ) (P := P) (T := T) (x := (q, .inl (cy 0, (n, .inl (fun _ => 0)))))
  rw [e3] at hP1 hD1
  exact ⟨hP1, hD1⟩
theorem xi_J4_init_da8c8 : gYI yJ4_init_da8c8 cJ4_init_da8c8 1 0 := ⟨kw_553, kw_63, kw_552, ⟨by decide +kernel, by decide +kernel⟩, by decide +kernel, rfl⟩
theorem xy_J4_append_15ec4 : gYV yJ4_append_15ec4 cJ4_append_15ec4 2 (some (.object "java/lang/StringBuilder")) 1 := ⟨kw_584, kw_63, kw_582, kw_583, ⟨by decide +kernel, by decide +kernel⟩, by decide +kernel⟩
theorem xy_J4_toString_0e30d : gYV yJ4_toString_0e30d cJ4_toString_0e30d 1 (some (.object "java/lang/String")) 0 := ⟨kw_728, kw_63, kw_726, kw_727, ⟨by decide +kernel, by decide +kernel⟩, by decide +kernel⟩
theorem xy_J0_charAt_5068e : gYV yJ0_charAt_5068e cJ0_charAt_5068e 2 (some .char) 1 := ⟨kw_890, kw_64, kw_888, kw_889, ⟨by decide +kernel, by decide +kernel⟩, by decide +kernel⟩
theorem dX8_put_0 : decode cX8_put 0 = .ok (.aload_n 1, 1) := by decide +kernel
theorem dX8_put_1 : decode cX8_put 1 = .ok (.astore_n 2, 1) := by decide +kernel
theorem dX8_put_2 : decode cX8_put 2 = .ok (.aload_n 2, 1) := by decide +kernel
theorem dX8_put_3 : decode cX8_put 3 = .ok (.invokevirtual 106, 3) := by decide +kernel
theorem dX8_put_6 : decode cX8_put 6 = .ok (.bipush 20, 2) := by decide +kernel
theorem dX8_put_8 : decode cX8_put 8 = .ok (.irem, 1) := by decide +kernel
theorem dX8_put_9 : decode cX8_put 9 = .ok (.ifCond .eq 26, 3) := by decide +kernel
theorem dX8_put_12 : decode cX8_put 12 = .ok (.new 62, 3) := by decide +kernel
theorem dX8_put_15 : decode cX8_put 15 = .ok (.dup, 1) := by decide +kernel
theorem dX8_put_16 : decode cX8_put 16 = .ok (.invokespecial 64, 3) := by decide +kernel
theorem dX8_put_19 : decode cX8_put 19 = .ok (.aload_n 2, 1) := by decide +kernel
theorem dX8_put_20 : decode cX8_put 20 = .ok (.invokevirtual 67, 3) := by decide +kernel
theorem dX8_put_23 : decode cX8_put 23 = .ok (.ldc 85, 2) := by decide +kernel
theorem dX8_put_25 : decode cX8_put 25 = .ok (.invokevirtual 67, 3) := by decide +kernel
theorem dX8_put_28 : decode cX8_put 28 = .ok (.invokevirtual 76, 3) := by decide +kernel
theorem dX8_put_31 : decode cX8_put 31 = .ok (.astore_n 2, 1) := by decide +kernel
theorem dX8_put_32 : decode cX8_put 32 = .ok (.goto (-30), 3) := by decide +kernel
theorem dX8_put_35 : decode cX8_put 35 = .ok (.iconst 0, 1) := by decide +kernel
theorem dX8_put_36 : decode cX8_put 36 = .ok (.istore_n 3, 1) := by decide +kernel
theorem dX8_put_37 : decode cX8_put 37 = .ok (.iload_n 3, 1) := by decide +kernel
theorem dX8_put_38 : decode cX8_put 38 = .ok (.aload_n 2, 1) := by decide +kernel
theorem dX8_put_39 : decode cX8_put 39 = .ok (.invokevirtual 106, 3) := by decide +kernel
theorem dX8_put_42 : decode cX8_put 42 = .ok (.if_icmp .ge 87, 3) := by decide +kernel
theorem dX8_put_45 : decode cX8_put 45 = .ok (.iconst 5, 1) := by decide +kernel
theorem dX8_put_46 : decode cX8_put 46 = .ok (.newarray .int, 2) := by decide +kernel
theorem dX8_put_48 : decode cX8_put 48 = .ok (.astore 4, 2) := by decide +kernel
theorem dX8_put_50 : decode cX8_put 50 = .ok (.iconst 0, 1) := by decide +kernel
theorem dX8_put_51 : decode cX8_put 51 = .ok (.istore 5, 2) := by decide +kernel
theorem dX8_put_53 : decode cX8_put 53 = .ok (.iload 5, 2) := by decide +kernel
theorem dX8_put_55 : decode cX8_put 55 = .ok (.bipush 20, 2) := by decide +kernel
theorem dX8_put_57 : decode cX8_put 57 = .ok (.if_icmp .ge 38, 3) := by decide +kernel
theorem dX8_put_60 : decode cX8_put 60 = .ok (.aload 4, 2) := by decide +kernel
theorem dX8_put_62 : decode cX8_put 62 = .ok (.iload 5, 2) := by decide +kernel
theorem dX8_put_64 : decode cX8_put 64 = .ok (.iconst 4, 1) := by decide +kernel
theorem dX8_put_65 : decode cX8_put 65 = .ok (.idiv, 1) := by decide +kernel
theorem dX8_put_66 : decode cX8_put 66 = .ok (.dup2, 1) := by decide +kernel
theorem dX8_put_67 : decode cX8_put 67 = .ok (.iaload, 1) := by decide +kernel
theorem dX8_put_68 : decode cX8_put 68 = .ok (.aload_n 2, 1) := by decide +kernel
theorem dX8_put_69 : decode cX8_put 69 = .ok (.iload_n 3, 1) := by decide +kernel
theorem dX8_put_70 : decode cX8_put 70 = .ok (.iload 5, 2) := by decide +kernel
theorem dX8_put_72 : decode cX8_put 72 = .ok (.iadd, 1) := by decide +kernel
theorem dX8_put_73 : decode cX8_put 73 = .ok (.invokevirtual 133, 3) := by decide +kernel
theorem dX8_put_76 : decode cX8_put 76 = .ok (.bipush 24, 2) := by decide +kernel
theorem dX8_put_78 : decode cX8_put 78 = .ok (.bipush 8, 2) := by decide +kernel
theorem dX8_put_80 : decode cX8_put 80 = .ok (.iload 5, 2) := by decide +kernel
theorem dX8_put_82 : decode cX8_put 82 = .ok (.iconst 4, 1) := by decide +kernel
theorem dX8_put_83 : decode cX8_put 83 = .ok (.irem, 1) := by decide +kernel
theorem dX8_put_84 : decode cX8_put 84 = .ok (.imul, 1) := by decide +kernel
theorem dX8_put_85 : decode cX8_put 85 = .ok (.isub, 1) := by decide +kernel
theorem dX8_put_86 : decode cX8_put 86 = .ok (.ishl, 1) := by decide +kernel
theorem dX8_put_87 : decode cX8_put 87 = .ok (.ior, 1) := by decide +kernel
theorem dX8_put_88 : decode cX8_put 88 = .ok (.iastore, 1) := by decide +kernel
theorem dX8_put_89 : decode cX8_put 89 = .ok (.iinc 5 1, 3) := by decide +kernel
theorem dX8_put_92 : decode cX8_put 92 = .ok (.goto (-39), 3) := by decide +kernel
theorem dX8_put_95 : decode cX8_put 95 = .ok (.aload_n 0, 1) := by decide +kernel
theorem dX8_put_96 : decode cX8_put 96 = .ok (.getfield 12, 3) := by decide +kernel
theorem dX8_put_99 : decode cX8_put 99 = .ok (.aload 4, 2) := by decide +kernel
theorem dX8_put_101 : decode cX8_put 101 = .ok (.iconst 0, 1) := by decide +kernel
theorem dX8_put_102 : decode cX8_put 102 = .ok (.iaload, 1) := by decide +kernel
theorem dX8_put_103 : decode cX8_put 103 = .ok (.aload 4, 2) := by decide +kernel
theorem dX8_put_105 : decode cX8_put 105 = .ok (.iconst 1, 1) := by decide +kernel
theorem dX8_put_106 : decode cX8_put 106 = .ok (.iaload, 1) := by decide +kernel
theorem dX8_put_107 : decode cX8_put 107 = .ok (.aload 4, 2) := by decide +kernel
theorem dX8_put_109 : decode cX8_put 109 = .ok (.iconst 2, 1) := by decide +kernel
theorem dX8_put_110 : decode cX8_put 110 = .ok (.iaload, 1) := by decide +kernel
theorem dX8_put_111 : decode cX8_put 111 = .ok (.aload 4, 2) := by decide +kernel
theorem dX8_put_113 : decode cX8_put 113 = .ok (.iconst 3, 1) := by decide +kernel
theorem dX8_put_114 : decode cX8_put 114 = .ok (.iaload, 1) := by decide +kernel
theorem dX8_put_115 : decode cX8_put 115 = .ok (.aload 4, 2) := by decide +kernel
theorem dX8_put_117 : decode cX8_put 117 = .ok (.iconst 4, 1) := by decide +kernel
theorem dX8_put_118 : decode cX8_put 118 = .ok (.iaload, 1) := by decide +kernel
theorem dX8_put_119 : decode cX8_put 119 = .ok (.invokevirtual 137, 3) := by decide +kernel
theorem dX8_put_122 : decode cX8_put 122 = .ok (.pop, 1) := by decide +kernel
theorem dX8_put_123 : decode cX8_put 123 = .ok (.iinc 3 20, 3) := by decide +kernel
theorem dX8_put_126 : decode cX8_put 126 = .ok (.goto (-89), 3) := by decide +kernel
theorem dX8_put_129 : decode cX8_put 129 = .ok (.return_, 1) := by decide +kernel
set_option maxHeartbeats 4000000 in
set_option maxRecDepth 100000 in
theorem w_put_2 {p : Program} {l : Launch} {e : Env} {s : State} {m : MethodId} {args : Array Value} {below : List Frame} {meth : Method} {c : Code} {D : va_G} {cy : Nat → ClassId} {ad : Nat → Nat} {b : Nat} {Q : State → Prop} {o0 : Nat} {fo : List Value} {P0 : va_W} (F : gF p s m meth c cX8_put RX8 6 none) (E : hE l D cy ad b s) : ∀ (n : Nat) {P1 : va_W} {sa va cells slots CM SM : Nat} {t : List Nat} {μ : gM}, n = padn t.length → t.length + n ≤ 1024 → (o0, .inr (8, .ref (ad 0) :: fo)) ∈ P1 → (∀ (μ : gM) (H : Heap), hW D cy ad b μ P1 [] H → hW D cy ad b μ P0 [] H) → (sa, sO va) ∈ P1 → (va, sV cy t) ∈ P1 → cells + n * 6 ≤ CM → slots + n * 8232 ≤ SM → CM ≤ 170 → SM ≤ 157300 →
    (∀ {P2 : va_W} {sa2 va2 : Nat} {H : Heap} {locs : List Loc} {ls : Array Slot}, (o0, .inr (8, .ref (ad 0) :: fo)) ∈ P2 → (∀ (μ : gM) (H : Heap), hW D cy ad b μ P2 [] H → hW D cy ad b μ P0 [] H) → (sa2, sO va2) ∈ P2 → (va2, sV cy (padt t)) ∈ P2 → hW D cy ad b μ P2 [] H → va_S (hA b) s.heap H locs → lv_has ls 6 [(2, .ref sa2), (0, .ref o0)] → W p l e ({ frames := 6, cells := 170, slots := 157300, locals := 151 } : Room) s m args below meth c H locs CM SM Q (F0 m 35 ls [])) →
    ∀ {H : Heap} {locs : List Loc} {ls : Array Slot}, hW D cy ad b μ P1 [] H → va_S (hA b) s.heap H locs → lv_has ls 6 [(2, .ref sa), (0, .ref o0)] → W p l e ({ frames := 6, cells := 170, slots := 157300, locals := 151 } : Room) s m args below meth c H locs cells slots Q (F0 m 2 ls []) := by
  obtain ⟨hx, hb, hml, hown, hlocks, hr⟩ := id F
  intro n
  induction n with
  | zero =>
    intro P1 sa va cells slots CM SM t μ hn hlen ho hPd h1 h2 hc hs hcm hsm kx H locs ls hM hS hl
    have hsrc : sSrc cy ad P1 sa va t := Or.inr ⟨h1, h2⟩
    refine lv_aload_n hx hb dX8_put_2 rfl (lv_at hl 0 rfl) ?_
    refine h_callK (As := []) (rest := []) hx hb (hml.trans hl.1.symm) hown E hM hS hsrc rfl xy_J0_length_8abf5 kw_886 (c_slen hsrc) rfl rfl (Nat.le_of_ble_eq_true rfl) ⟨(Nat.le_of_ble_eq_true rfl), (Nat.le_of_ble_eq_true rfl)⟩ ⟨(show _ ≤ 170 by omega), (show _ ≤ 157300 by omega)⟩ dX8_put_3 (fun rv H locs hZ hS => ?_)
    obtain ⟨rfl, hM⟩ := hZ
    refine lv_bipush (v := (20 : Int32)) hx hb dX8_put_6 (by decide) ?_
    refine lv_irem hx hb dX8_put_8 (by decide) ?_
    rw [show nI t.length - nI t.length / (20 : Int32) * (20 : Int32) = nI (t.length % 20) from pk_rem (d := 20) (by omega) (by decide) (by decide)]
    refine lv_if_eq (tgt := 35) hx hb dX8_put_9 (by decide) (fun c1 => ?_) (fun c1 => ?_)
    · have h0 : t.length % 20 = 0 := by unfold padn at hn; omega
      have e0 := padt_0 h0
      refine W.widen (k := CM) (n := SM) (by omega) (by omega) (kx ho hPd h1 (by rw [e0]; exact h2) hM hS hl)
    · exact absurd (show nI (t.length % 20) = 0 by rw [show t.length % 20 = 0 by unfold padn at hn; omega]; rfl) c1
  | succ n ih =>
    intro P1 sa va cells slots CM SM t μ hn hlen ho hPd h1 h2 hc hs hcm hsm kx H locs ls hM hS hl
    have hsrc : sSrc cy ad P1 sa va t := Or.inr ⟨h1, h2⟩
    refine lv_aload_n hx hb dX8_put_2 rfl (lv_at hl 0 rfl) ?_
    refine h_callK (As := []) (rest := []) hx hb (hml.trans hl.1.symm) hown E hM hS hsrc rfl xy_J0_length_8abf5 kw_886 (c_slen hsrc) rfl rfl (Nat.le_of_ble_eq_true rfl) ⟨(Nat.le_of_ble_eq_true rfl), (Nat.le_of_ble_eq_true rfl)⟩ ⟨(show _ ≤ 170 by omega), (show _ ≤ 157300 by omega)⟩ dX8_put_3 (fun rv H locs hZ hS => ?_)
    obtain ⟨rfl, hM⟩ := hZ
    refine lv_bipush (v := (20 : Int32)) hx hb dX8_put_6 (by decide) ?_
    refine lv_irem hx hb dX8_put_8 (by decide) ?_
    rw [show nI t.length - nI t.length / (20 : Int32) * (20 : Int32) = nI (t.length % 20) from pk_rem (d := 20) (by omega) (by decide) (by decide)]
    have h0 : t.length % 20 ≠ 0 := fun q => by rw [padn_0 q] at hn; omega
    refine lv_if_eq (tgt := 35) hx hb dX8_put_9 (by decide) (fun c1 => ?_) (fun c1 => ?_)
    · exact absurd c1 (nI_ne0 (by omega) (by omega))
    · refine h_new hx hb hown E hM hS gC_J4 kw_549 kw_550 kw_63 (fs := [.null, .int (0 : Int32), .int (0 : Int32), .int (0 : Int32)]) (by decide +kernel) (show _ ≤ 170 by omega) (show _ ≤ 157300 by omega) dX8_put_12 (fun a1 H hM hS => ?_)
      replace hM : hW D cy ad b μ P1 [(a1, .inr (10, [.null, .int (0 : Int32), .int (0 : Int32), .int (0 : Int32)]))] H := hM
      refine lv_dup hx hb dX8_put_15 rfl ?_
      refine h_callI (As := []) (rest := [.ref a1]) hx hb (hml.trans hl.1.symm) hown E hM hS xi_J4_init_da8c8 kw_551 c_binit rfl rfl (Nat.le_of_ble_eq_true rfl) ⟨(Nat.le_of_ble_eq_true rfl), (Nat.le_of_ble_eq_true rfl)⟩ ⟨(show _ ≤ 170 by omega), (show _ ≤ 157300 by omega)⟩ dX8_put_16 (fun rv H locs hZ hS => ?_)
      obtain ⟨vb1, rfl, hM⟩ := hZ
      refine lv_aload_n hx hb dX8_put_19 rfl (lv_at hl 0 rfl) ?_
      refine h_callV (As := [.ref sa]) (rest := []) hx hb (hml.trans hl.1.symm) hown E hM hS xy_J4_append_15ec4 kw_581 (c_appS hsrc (show ([] : List Nat).length + t.length ≤ 1024 by show 0 + t.length ≤ 1024; omega) (show ([] : List Nat).length ≤ 16 by decide) (show 16 ≤ 2056 by decide)) (ht_m List.mem_cons_self) gC_J4.1 rfl rfl (Nat.le_of_ble_eq_true rfl) ⟨(Nat.le_of_ble_eq_true rfl), (Nat.le_of_ble_eq_true rfl)⟩ ⟨(show _ ≤ 170 by omega), (show _ ≤ 157300 by omega)⟩ dX8_put_20 (fun rv H locs hZ hS => ?_)
      obtain ⟨vb2, w2, rfl, he2, hM⟩ := hZ
      rw [List.nil_append] at he2 hM
      refine va_ldcS hx hb hown (E.2.2.2.2.2.2.2.2.2.2.2.1 3 (by decide)) dX8_put_23 ?_
      refine h_callV (As := [.ref (ad (470 + 3))]) (rest := []) hx hb (hml.trans hl.1.symm) hown E hM hS xy_J4_append_15ec4 kw_581 (c_appS (sSrc_k (by decide : 3 < 9)) (show t.length + 1 ≤ 1024 by omega) he2.1 he2.2) (ht_m List.mem_cons_self) gC_J4.1 rfl rfl (Nat.le_of_ble_eq_true rfl) ⟨(Nat.le_of_ble_eq_true rfl), (Nat.le_of_ble_eq_true rfl)⟩ ⟨(show _ ≤ 170 by omega), (show _ ≤ 157300 by omega)⟩ dX8_put_25 (fun rv H locs hZ hS => ?_)
      obtain ⟨vb3, w3, rfl, he3, hM⟩ := hZ
      refine h_callV (As := []) (rest := []) hx hb (hml.trans hl.1.symm) hown E hM hS xy_J4_toString_0e30d kw_725 (c_toS he3.1 he3.2) (ht_m List.mem_cons_self) gC_J4.1 rfl rfl (Nat.le_of_ble_eq_true rfl) ⟨(Nat.le_of_ble_eq_true rfl), (Nat.le_of_ble_eq_true rfl)⟩ ⟨(show _ ≤ 170 by omega), (show _ ≤ 157300 by omega)⟩ dX8_put_28 (fun rv H locs hZ hS => ?_)
      obtain ⟨q, va4, rfl, hM⟩ := hZ
      replace hM := hW.cut0 hM
      rw [sTx_3] at hM
      refine lv_astore_n (lv' := [(2, .ref q), (0, .ref o0)]) hx hb dX8_put_31 rfl hl (by decide) rfl (fun ls hl => ?_)
      refine lv_goto (tgt := 2) hx hb dX8_put_32 (by decide) ?_
      replace hM := hW.low hM
      have hl9 : (t ++ [32]).length = t.length + 1 := by rw [List.length_append]; rfl
      have e9 := padt_s h0
      refine ih (t := t ++ [32]) (by rw [hl9]; have := padn_s h0; omega) (by rw [hl9]; omega) (List.mem_append_left _ ho) (fun μ H h => hPd μ H (hW.drop (hW.up h))) (List.mem_append_right _ List.mem_cons_self) (List.mem_append_right _ (List.mem_cons_of_mem _ List.mem_cons_self)) (by omega) (by omega) hcm hsm (fun a1 a2 a3 a4 => by rw [e9] at a4; exact kx a1 a2 a3 a4) hM hS hl
set_option maxHeartbeats 4000000 in
set_option maxRecDepth 100000 in
theorem w_put_53 {p : Program} {l : Launch} {e : Env} {s : State} {m : MethodId} {args : Array Value} {below : List Frame} {meth : Method} {c : Code} {D : va_G} {cy : Nat → ClassId} {ad : Nat → Nat} {b : Nat} {Q : State → Prop} {o0 : Nat} {fo : List Value} {P0 : va_W} {P1 : va_W} {sa va i q cells slots : Nat} {t : List Nat} {μ : gM} (F : gF p s m meth c cX8_put RX8 6 none) (E : hE l D cy ad b s) (h1 : (sa, sO va) ∈ P1) (h2 : (va, sV cy t) ∈ P1) (h3 : ∀ x ∈ t, x < 256) (hi : i + 20 ≤ t.length) (h4 : t.length ≤ 1024) (hcm : cells ≤ 170) (hsm : slots ≤ 157300)
    (kx : ∀ {H : Heap} {locs : List Loc} {ls : Array Slot}, hW D cy ad b μ P1 [(q, .inl (cy 0, 5, .inl (rowv t i 20)))] H → va_S (hA b) s.heap H locs → lv_has ls 6 [(4, .ref q), (3, .int (nI i)), (2, .ref sa), (0, .ref o0)] → W p l e ({ frames := 6, cells := 170, slots := 157300, locals := 151 } : Room) s m args below meth c H locs cells slots Q (F0 m 95 ls [])) :
    ∀ (n k : Nat), k + n = 20 → ∀ {H : Heap} {locs : List Loc} {ls : Array Slot}, hW D cy ad b μ P1 [(q, .inl (cy 0, 5, .inl (rowv t i k)))] H → va_S (hA b) s.heap H locs → lv_has ls 6 [(5, .int (nI k)), (4, .ref q), (3, .int (nI i)), (2, .ref sa), (0, .ref o0)] → W p l e ({ frames := 6, cells := 170, slots := 157300, locals := 151 } : Room) s m args below meth c H locs cells slots Q (F0 m 53 ls []) := by
  obtain ⟨hx, hb, hml, hown, hlocks, hr⟩ := id F
  intro n
  induction n with
  | zero =>
    intro k hk H locs ls hM hS hl
    refine lv_iload hx hb dX8_put_53 (lv_at hl 0 rfl) ?_
    refine lv_bipush (v := (20 : Int32)) hx hb dX8_put_55 (by decide) ?_
    refine lv_icmp_ge (tgt := 95) hx hb dX8_put_57 (by decide) (fun c1 => ?_) (fun c1 => ?_)
    · obtain rfl : k = 20 := by omega
      exact kx hM hS (lv_sub hl [1, 2, 3, 4] rfl)
    · exact absurd (show (20 : Int32) ≤ nI k from nI_le (a := 20) (b := k) (by omega) (by omega)) c1
  | succ n ih =>
    intro k hk H locs ls hM hS hl
    refine lv_iload hx hb dX8_put_53 (lv_at hl 0 rfl) ?_
    refine lv_bipush (v := (20 : Int32)) hx hb dX8_put_55 (by decide) ?_
    refine lv_icmp_ge (tgt := 95) hx hb dX8_put_57 (by decide) (fun c1 => ?_) (fun c1 => ?_)
    · exact absurd c1 (nI_ge (a := k) (b := 20) (by omega) (by decide))
    · refine lv_aload hx hb dX8_put_60 (lv_at hl 1 rfl) ?_
      refine lv_iload hx hb dX8_put_62 (lv_at hl 0 rfl) ?_
      refine lv_iconst (v := (4 : Int32)) hx hb dX8_put_64 (by decide) ?_
      refine lv_idiv hx hb dX8_put_65 (by decide) ?_
      rw [show nI k / (4 : Int32) = nI (k / 4) from pk_div (d := 4) (by omega) (by decide) (by decide)]
      refine lv_dup2_11 hx hb dX8_put_66 rfl rfl ?_
      refine h_iald hx hb E hM (ht_m List.mem_cons_self) (x_in (k := k / 4) (by omega) (by decide)) dX8_put_67 ?_
      rw [nI_clamp (n := k / 4) (by omega)]
      refine lv_aload_n hx hb dX8_put_68 rfl (lv_at hl 3 rfl) ?_
      refine lv_iload_n hx hb dX8_put_69 rfl (lv_at hl 2 rfl) ?_
      refine lv_iload hx hb dX8_put_70 (lv_at hl 0 rfl) ?_
      refine lv_iadd hx hb dX8_put_72 ?_
      rw [nI_add]
      replace hM := hW.low hM
      have h1a : (sa, sO va) ∈ P1 ++ [(q, .inl (cy 0, 5, .inl (rowv t i k)))] := List.mem_append_left _ h1
      have h2a : (va, sV cy t) ∈ P1 ++ [(q, .inl (cy 0, 5, .inl (rowv t i k)))] := List.mem_append_left _ h2
      refine h_callK (As := [.int (nI (i + k))]) (rest := [.int (rowv t i k (k / 4)), .int (nI (k / 4)), .ref q]) hx hb (hml.trans hl.1.symm) hown E hM hS (Or.inr ⟨h1a, h2a⟩) rfl xy_J0_charAt_5068e kw_887 (c_char (Or.inr ⟨h1a, h2a⟩) h2a (by omega) (by omega) (getD_b h3 _)) rfl rfl (Nat.le_of_ble_eq_true rfl) ⟨(Nat.le_of_ble_eq_true rfl), (Nat.le_of_ble_eq_true rfl)⟩ ⟨(show _ ≤ 170 by omega), (show _ ≤ 157300 by omega)⟩ dX8_put_73 (fun rv H locs hZ hS => ?_)
      obtain ⟨rfl, hM⟩ := hZ
      replace hM := hW.up hM
      refine lv_bipush (v := (24 : Int32)) hx hb dX8_put_76 (by decide) ?_
      refine lv_bipush (v := (8 : Int32)) hx hb dX8_put_78 (by decide) ?_
      refine lv_iload hx hb dX8_put_80 (lv_at hl 0 rfl) ?_
      refine lv_iconst (v := (4 : Int32)) hx hb dX8_put_82 (by decide) ?_
      refine lv_irem hx hb dX8_put_83 (by decide) ?_
      rw [show nI k - nI k / (4 : Int32) * (4 : Int32) = nI (k % 4) from pk_rem (d := 4) (by omega) (by decide) (by decide)]
      refine lv_imul hx hb dX8_put_84 ?_
      refine lv_isub hx hb dX8_put_85 ?_
      refine lv_ishl hx hb dX8_put_86 ?_
      refine lv_ior hx hb dX8_put_87 ?_
      refine h_iast (j := 0) hx hb E hM hS rfl (x_in (k := k / 4) (by omega) (by decide)) dX8_put_88 (fun H locs hM hS => ?_)
      rw [nI_clamp (n := k / 4) (by omega)] at hM
      replace hM : hW D cy ad b μ P1 [(q, .inl (cy 0, 5, .inl (rowv t i (k + 1))))] H := hM
      refine lv_iinc (v := nI (k + 1)) (lv' := [(5, .int (nI (k + 1))), (4, .ref q), (3, .int (nI i)), (2, .ref sa), (0, .ref o0)]) hx hb dX8_put_89 hl (k := 0) rfl (nI_1 k) (by decide) rfl (fun ls hl => ?_)
      refine lv_goto (tgt := 53) hx hb dX8_put_92 (by decide) ?_
      exact ih (k + 1) (by omega) hM hS hl
set_option maxHeartbeats 4000000 in
set_option maxRecDepth 100000 in
theorem w_put_37 {p : Program} {l : Launch} {e : Env} {s : State} {m : MethodId} {args : Array Value} {below : List Frame} {meth : Method} {c : Code} {D : va_G} {cy : Nat → ClassId} {ad : Nat → Nat} {b : Nat} {Q : State → Prop} {o0 : Nat} {fo : List Value} {P0 : va_W} {P1 : va_W} {sa va : Nat} {t : List Nat} {RES : gM} (F : gF p s m meth c cX8_put RX8 6 none) (E : hE l D cy ad b s) (ho : (o0, .inr (8, .ref (ad 0) :: fo)) ∈ P1) (h1 : (sa, sO va) ∈ P1) (h2 : (va, sV cy t) ∈ P1) (h3 : ∀ x ∈ t, x < 256) (h4 : t.length ≤ 1024)
    (kx : ∀ {cells slots : Nat} {H : Heap} {locs : List Loc} {ls : Array Slot}, cells ≤ 170 → slots ≤ 157300 → hW D cy ad b RES P1 [] H → va_S (hA b) s.heap H locs → W p l e ({ frames := 6, cells := 170, slots := 157300, locals := 151 } : Room) s m args below meth c H locs cells slots Q (F0 m 129 ls [])) :
    ∀ (n i : Nat) (μ : gM) {cells slots : Nat}, i + 20 * n = t.length → cells + n ≤ 170 → slots + n * 16 ≤ 157300 → f_rows t n i μ = some RES → ∀ {H : Heap} {locs : List Loc} {ls : Array Slot}, hW D cy ad b μ P1 [] H → va_S (hA b) s.heap H locs → lv_has ls 6 [(3, .int (nI i)), (2, .ref sa), (0, .ref o0)] → W p l e ({ frames := 6, cells := 170, slots := 157300, locals := 151 } : Room) s m args below meth c H locs cells slots Q (F0 m 37 ls []) := by
  obtain ⟨hx, hb, hml, hown, hlocks, hr⟩ := id F
  intro n
  induction n with
  | zero =>
    intro i μ cells slots hi hc hs h H locs ls hM hS hl
    have hsrc : sSrc cy ad P1 sa va t := Or.inr ⟨h1, h2⟩
    refine lv_iload_n hx hb dX8_put_37 rfl (lv_at hl 0 rfl) ?_
    refine lv_aload_n hx hb dX8_put_38 rfl (lv_at hl 1 rfl) ?_
    refine h_callK (As := []) (rest := [.int (nI i)]) hx hb (hml.trans hl.1.symm) hown E hM hS hsrc rfl xy_J0_length_8abf5 kw_886 (c_slen hsrc) rfl rfl (Nat.le_of_ble_eq_true rfl) ⟨(Nat.le_of_ble_eq_true rfl), (Nat.le_of_ble_eq_true rfl)⟩ ⟨(show _ ≤ 170 by omega), (show _ ≤ 157300 by omega)⟩ dX8_put_39 (fun rv H locs hZ hS => ?_)
    obtain ⟨rfl, hM⟩ := hZ
    refine lv_icmp_ge (tgt := 129) hx hb dX8_put_42 (by decide) (fun c1 => ?_) (fun c1 => ?_)
    · obtain rfl := Option.some.inj h
      exact kx (by omega) (by omega) hM hS
    · exact absurd (nI_le (a := t.length) (b := i) (by omega) (by omega)) c1
  | succ n ih =>
    intro i μ cells slots hi hc hs h H locs ls hM hS hl
    have hsrc : sSrc cy ad P1 sa va t := Or.inr ⟨h1, h2⟩
    refine lv_iload_n hx hb dX8_put_37 rfl (lv_at hl 0 rfl) ?_
    refine lv_aload_n hx hb dX8_put_38 rfl (lv_at hl 1 rfl) ?_
    refine h_callK (As := []) (rest := [.int (nI i)]) hx hb (hml.trans hl.1.symm) hown E hM hS hsrc rfl xy_J0_length_8abf5 kw_886 (c_slen hsrc) rfl rfl (Nat.le_of_ble_eq_true rfl) ⟨(Nat.le_of_ble_eq_true rfl), (Nat.le_of_ble_eq_true rfl)⟩ ⟨(show _ ≤ 170 by omega), (show _ ≤ 157300 by omega)⟩ dX8_put_39 (fun rv H locs hZ hS => ?_)
    obtain ⟨rfl, hM⟩ := hZ
    refine lv_icmp_ge (tgt := 129) hx hb dX8_put_42 (by decide) (fun c1 => ?_) (fun c1 => ?_)
    · exact absurd c1 (nI_ge (by omega) (by omega))
    · obtain ⟨q9, hq9, h⟩ := gbind_e h
      refine lv_iconst (v := (5 : Int32)) hx hb dX8_put_45 (by decide) ?_
      refine h_newIn hx hb E hM hS 5 rfl (by decide) (show _ ≤ 170 by omega) (show _ ≤ 157300 by omega) dX8_put_46 (fun q H hM hS => ?_)
      replace hM : hW D cy ad b μ P1 [(q, .inl (cy 0, 5, .inl (rowv t i 0)))] H := hM
      refine lv_astore (lv' := [(4, .ref q), (3, .int (nI i)), (2, .ref sa), (0, .ref o0)]) hx hb dX8_put_48 hl (by decide) rfl (fun ls hl => ?_)
      refine lv_iconst (v := (0 : Int32)) hx hb dX8_put_50 (by decide) ?_
      refine lv_istore (lv' := [(5, .int (nI 0)), (4, .ref q), (3, .int (nI i)), (2, .ref sa), (0, .ref o0)]) hx hb dX8_put_51 hl (by decide) rfl (fun ls hl => ?_)
      refine w_put_53 (fo := fo) (P0 := P0) F E h1 h2 h3 (by omega) h4 (by omega) (by omega) (fun {H locs ls} hM hS hl => ?_) 20 0 rfl hM hS hl
      refine lv_aload_n hx hb dX8_put_95 rfl (lv_at hl 3 rfl) ?_
      refine h_get hx hb hown E hM (hp_m ho) gC_X8 0 (by decide) (v := .ref (ad 0)) rfl kw_1023 dX8_put_96 ?_
      refine lv_aload hx hb dX8_put_99 (lv_at hl 0 rfl) ?_
      refine lv_iconst (v := (0 : Int32)) hx hb dX8_put_101 (by decide) ?_
      refine l_iald hx hb E hM (ht_m List.mem_cons_self) (⟨by decide, by decide⟩ : gIn (0 : Int32) 5) (v := rowv t i 20 0) rfl dX8_put_102 ?_
      refine lv_aload hx hb dX8_put_103 (lv_at hl 0 rfl) ?_
      refine lv_iconst (v := (1 : Int32)) hx hb dX8_put_105 (by decide) ?_
      refine l_iald hx hb E hM (ht_m List.mem_cons_self) (⟨by decide, by decide⟩ : gIn (1 : Int32) 5) (v := rowv t i 20 1) rfl dX8_put_106 ?_
      refine lv_aload hx hb dX8_put_107 (lv_at hl 0 rfl) ?_
      refine lv_iconst (v := (2 : Int32)) hx hb dX8_put_109 (by decide) ?_
      refine l_iald hx hb E hM (ht_m List.mem_cons_self) (⟨by decide, by decide⟩ : gIn (2 : Int32) 5) (v := rowv t i 20 2) rfl dX8_put_110 ?_
      refine lv_aload hx hb dX8_put_111 (lv_at hl 0 rfl) ?_
      refine lv_iconst (v := (3 : Int32)) hx hb dX8_put_113 (by decide) ?_
      refine l_iald hx hb E hM (ht_m List.mem_cons_self) (⟨by decide, by decide⟩ : gIn (3 : Int32) 5) (v := rowv t i 20 3) rfl dX8_put_114 ?_
      refine lv_aload hx hb dX8_put_115 (lv_at hl 0 rfl) ?_
      refine lv_iconst (v := (4 : Int32)) hx hb dX8_put_117 (by decide) ?_
      refine l_iald hx hb E hM (ht_m List.mem_cons_self) (⟨by decide, by decide⟩ : gIn (4 : Int32) 5) (v := rowv t i 20 4) rfl dX8_put_118 ?_
      refine h_callC (As := [.int (rowv t i 20 0), .int (rowv t i 20 1), .int (rowv t i 20 2), .int (rowv t i 20 3), .int (rowv t i 20 4)]) (rest := []) hx hb (hml.trans hl.1.symm) hown E hM hS hy_X7_feed kw_902 (c_X7_feed hq9) hk_0 dd_0 rfl rfl rfl (Nat.le_of_ble_eq_true rfl) ⟨(Nat.le_of_ble_eq_true rfl), (Nat.le_of_ble_eq_true rfl)⟩ ⟨(show _ ≤ 170 by omega), (show _ ≤ 157300 by omega)⟩ dX8_put_119 (fun H locs hM hS => ?_)
      refine lv_pop hx hb dX8_put_122 rfl ?_
      refine lv_iinc (v := nI (i + 20)) (lv' := [(3, .int (nI (i + 20))), (4, .ref q), (2, .ref sa), (0, .ref o0)]) hx hb dX8_put_123 hl (k := 1) rfl (nI_add i 20) (by decide) rfl (fun ls hl => ?_)
      refine lv_goto (tgt := 37) hx hb dX8_put_126 (by decide) ?_
      replace hM := hW.drop hM
      exact ih (i + 20) q9.2 (by omega) (by omega) (by omega) h hM hS (lv_sub hl [0, 2, 3] rfl)
set_option maxHeartbeats 4000000 in
set_option maxRecDepth 100000 in
theorem c_put {l : Launch} {D : va_G} {cy : Nat → ClassId} {ad : Nat → Nat} {b : Nat} {P : va_W} {o0 sa va : Nat} {fo : List Value} {t : List Nat} {μ RES : gM} (ho : (o0, .inr (8, .ref (ad 0) :: fo)) ∈ P) (h1 : (sa, sO va) ∈ P) (h2 : (va, sV cy t) ∈ P) (h3 : ∀ x ∈ t, x < 256) (h4 : t.length ≤ 1000) (h : f_put t μ = some RES) : Met l yX8_put [.code yX8_put cX8_put 6 none] ({ frames := 6, cells := 170, slots := 157300, locals := 151 } : Room) (va_Pc [.ref o0, .ref sa] (hB l D cy ad b μ P [])) (hQ b (fun rv H => rv = none ∧ hW D cy ad b RES P [] H)) 170 157300 (hA b) := by
  refine Met.ofW (cc := cX8_put) (maxL := 6) (ret := none) (by decide +kernel) rfl ?_
  intro p e s m args below meth c s₁ B hml0 hv
  obtain ⟨rfl, E, hM⟩ := hv
  have F : gF p s m meth c cX8_put RX8 6 none := gF_of B hml0
  obtain ⟨hx, hb, hml, hown, hlocks, hr⟩ := id F
  have hS : va_S (hA b) s.heap s.heap [] := va_S.rf
  have hl := lv_entry ([.ref o0, .ref sa]) (n := 6) (Nat.le_of_ble_eq_true rfl)
  rw [lg_entry_eq]
  generalize (lg_sl ([.ref o0, .ref sa]) ++ List.replicate (6 - (lg_sl ([.ref o0, .ref sa])).length) Slot.unset).toArray = ls at hl ⊢
  have hl : lv_has ls 6 [(0, .ref o0), (1, .ref sa)] := hl
  have hp := padn_lt (n := t.length)
  have hpl := padt_len (t := t)
  have hp0 := padt_20 (t := t)
  refine lv_aload_n hx hb dX8_put_0 rfl (lv_at hl 1 rfl) ?_
  refine lv_astore_n (lv' := [(2, .ref sa), (0, .ref o0), (1, .ref sa)]) hx hb dX8_put_1 rfl hl (by decide) rfl (fun ls hl => ?_)
  refine w_put_2 (P0 := P) (fo := fo) F E _ (CM := 114) (SM := 156408) rfl (by omega) ho (fun _ _ h => h) h1 h2 (by omega) (by omega) (by decide) (by decide) (fun {P2 sa2 va2 H locs ls} ho hPd h1 h2 hM hS hl => ?_) hM hS (lv_sub hl [0, 1] rfl)
  refine lv_iconst (v := (0 : Int32)) hx hb dX8_put_35 (by decide) ?_
  refine lv_istore_n (lv' := [(3, .int (nI 0)), (2, .ref sa2), (0, .ref o0)]) hx hb dX8_put_36 rfl hl (by decide) rfl (fun ls hl => ?_)
  refine w_put_37 (P0 := P) (fo := fo) F E ho h1 h2 (padt_b h3) (by omega) (fun {cells slots H locs ls} hc hs hM hS => ?_) ((padt t).length / 20) 0 μ (by omega) (by omega) (by omega) h hM hS hl
  exact h_vret hx hb hr hlocks hc hs ⟨rfl, hPd _ _ hM⟩ hS dX8_put_129

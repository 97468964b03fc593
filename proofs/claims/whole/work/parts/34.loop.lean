/-- one operation of the law: none = it answers false -/
def f_case (k : Nat) (s1 s2 s3 s4 s5 : Int32) (μ : gM) : Option gM := match k with
  | 0 => f_case_0 s1 s2 s3 s4 s5 μ
  | 1 => f_case_1 s1 μ
  | 2 => f_case_2  μ
  | 3 => f_case_3  μ
  | 4 => f_case_4  μ
  | 5 => f_case_5  μ
  | 6 => f_case_6  μ
  | 7 => f_case_7  μ
  | 8 => f_case_8 s1 μ
  | 9 => f_case_9 s1 μ
  | 10 => f_case_10 s1 μ
  | 11 => f_case_11 s1 μ
  | 12 => f_case_12 s1 s2 μ
  | 13 => f_case_13 s1 μ
  | 14 => f_case_14 s1 s2 μ
  | 15 => f_case_15 s1 s2 s3 μ
  | 16 => f_case_16 s1 s2 μ
  | 17 => f_case_17 s1 μ
  | 18 => f_case_18 s1 μ
  | 19 => f_case_19 s1 μ
  | 20 => f_case_20 s1 μ
  | 21 => f_case_21 s1 s2 μ
  | 22 => f_case_22 s1 μ
  | 23 => f_case_23 s1 μ
  | 24 => f_case_24 s1 μ
  | 25 => f_case_25 s1 μ
  | 26 => f_case_26  μ
  | 27 => f_case_27 s1 s2 μ
  | 28 => f_case_28 s1 s2 μ
  | 29 => f_case_29 s1 s2 μ
  | 30 => f_case_30  μ
  | 31 => f_case_31  μ
  | 32 => f_case_32  μ
  | 33 => f_case_33 s1 s2 μ
  | 34 => f_case_34 s1 μ
  | 35 => f_case_35 s1 μ
  | 36 => f_case_36 s1 μ
  | 37 => f_case_37  μ
  | 38 => f_case_38  μ
  | 39 => f_case_39  μ
  | 40 => f_case_40 s1 μ
  | 41 => f_case_41 s1 s2 μ
  | 42 => f_case_42 s1 μ
  | 43 => f_case_43  μ
  | 44 => f_case_44  μ
  | 45 => f_case_45 s1 μ
  | 46 => f_case_46 s1 μ
  | 47 => f_case_47  μ
  | 48 => f_case_48  μ
  | 49 => f_case_49  μ
  | 50 => f_case_50  μ
  | 51 => f_case_51  μ
  | 52 => f_case_52 s1 s2 μ
  | 53 => f_case_53 s1 μ
  | 54 => f_case_54 s1 s2 s3 s4 μ
  | 55 => f_case_55 s1 s2 s3 s4 s5 μ
  | 56 => f_case_56 s1 s2 μ
  | 57 => f_case_57 s1 s2 μ
  | 58 => f_case_58 s1 μ
  | 59 => f_case_59 s1 μ
  | 60 => f_case_60 s1 s2 μ
  | 61 => f_case_61  μ
  | _ => some μ
theorem op63 (x : Int32) : ∃ k : Nat, k < 64 ∧ x &&& 63 = Int32.ofNat k := by
  refine ⟨x.toBitVec.toNat &&& 63, Nat.lt_of_le_of_lt Nat.and_le_right (by decide), Int32.toBitVec_inj.mp ?_⟩
  rw [Int32.toBitVec_and]
  apply BitVec.eq_of_toNat_eq
  rw [BitVec.toNat_and]
  show _ = (x.toBitVec.toNat &&& 63) % 2 ^ 32
  rw [Nat.mod_eq_of_lt (Nat.lt_of_le_of_lt Nat.and_le_right (by decide))]
  rfl
section LAWL
variable {p : Program} {l : Launch} {e : Env} {s : State} {m : MethodId} {args : Array Value} {below : List Frame} {meth : Method} {c : Code} {H : Heap} {locs : List Loc} {cells slots : Nat} {Q : State → Prop} {D : va_G} {cy : Nat → ClassId} {ad : Nat → Nat} {base b L : Nat} {xs : Nat → Int32}
set_option maxHeartbeats 4000000 in
set_option maxRecDepth 100000 in
theorem w_disp {k : Nat} {x4 s1 s2 s3 s4 s5 : Int32} {μ μ2 : gM} (hk : k < 64) (h : f_case k s1 s2 s3 s4 s5 μ = some μ2) (hx : p.tables.exec = Jvm.exec) (hb : c.code = cL_law) (hml : c.maxLocals = 8) (hown : s.vm.findClass RL = some m.cls) (hX : va_X b L xs s s.heap) (hbl : b < s.heap.size) (hbA : ¬ gA base b) (h1 : scrAt L xs x4 1 s1) (h2 : scrAt L xs x4 2 s2) (h3 : scrAt L xs x4 3 s3) (h4 : scrAt L xs x4 4 s4) (h5 : scrAt L xs x4 5 s5) (E : gEnv l D cy ad base s) (hM : gW gFull D cy ad base μ H) (hS : va_S (gA base) s.heap H locs) (hc : cells + 2 ≤ room_1.cells) (hs : slots + 12 ≤ room_1.slots) {ls : Array Slot} (hl : lv_has ls 8 [(0, .ref b), (1, .ref (ad 0)), (2, .ref (ad 60)), (3, .ref (ad 77)), (4, .int x4)]) (kc : ∀ {ad : Nat → Nat} {H : Heap} {locs : List Loc} {ls : Array Slot}, gEnv l D cy ad base s → gW gFull D cy ad base μ2 H → va_S (gA base) s.heap H locs → lv_has ls 8 [(0, .ref b), (1, .ref (ad 0)), (2, .ref (ad 60)), (3, .ref (ad 77)), (4, .int x4)] → W p l e room_1 s m args below meth c H locs (cells + 2) (slots + 12) Q (F0 m 2764 ls [])) : W p l e room_1 s m args below meth c H locs cells slots Q (F0 m 40 ls [.int (Int32.ofNat k)]) := by
  match k, hk, h with
  | 0, _, h =>
    refine lv_tableIn (off := 264) (tgt := 304) hx hb dL_law_40 (by decide) (by decide) rfl (by decide) ?_
    exact w_case_0 h hx hb hml hown hX hbl hbA h1 h2 h3 h4 h5 E hM hS hc hs hl kc
  | 1, _, h =>
    refine lv_tableIn (off := 337) (tgt := 377) hx hb dL_law_40 (by decide) (by decide) rfl (by decide) ?_
    exact w_case_1 h hx hb hml hown hX hbl hbA h1 E hM hS hc hs hl kc
  | 2, _, h =>
    refine lv_tableIn (off := 362) (tgt := 402) hx hb dL_law_40 (by decide) (by decide) rfl (by decide) ?_
    exact w_case_2 h hx hb hml hown hX hbl hbA  E hM hS hc hs hl kc
  | 3, _, h =>
    refine lv_tableIn (off := 375) (tgt := 415) hx hb dL_law_40 (by decide) (by decide) rfl (by decide) ?_
    exact w_case_3 h hx hb hml hown hX hbl hbA  E hM hS hc hs hl kc
  | 4, _, h =>
    refine lv_tableIn (off := 388) (tgt := 428) hx hb dL_law_40 (by decide) (by decide) rfl (by decide) ?_
    exact w_case_4 h hx hb hml hown hX hbl hbA  E hM hS hc hs hl kc
  | 5, _, h =>
    refine lv_tableIn (off := 401) (tgt := 441) hx hb dL_law_40 (by decide) (by decide) rfl (by decide) ?_
    exact w_case_5 h hx hb hml hown hX hbl hbA  E hM hS hc hs hl kc
  | 6, _, h =>
    refine lv_tableIn (off := 414) (tgt := 454) hx hb dL_law_40 (by decide) (by decide) rfl (by decide) ?_
    exact w_case_6 h hx hb hml hown hX hbl hbA  E hM hS hc hs hl kc
  | 7, _, h =>
    refine lv_tableIn (off := 427) (tgt := 467) hx hb dL_law_40 (by decide) (by decide) rfl (by decide) ?_
    exact w_case_7 h hx hb hml hown hX hbl hbA  E hM hS hc hs hl kc
  | 8, _, h =>
    refine lv_tableIn (off := 440) (tgt := 480) hx hb dL_law_40 (by decide) (by decide) rfl (by decide) ?_
    exact w_case_8 h hx hb hml hown hX hbl hbA h1 E hM hS hc hs hl kc
  | 9, _, h =>
    refine lv_tableIn (off := 465) (tgt := 505) hx hb dL_law_40 (by decide) (by decide) rfl (by decide) ?_
    exact w_case_9 h hx hb hml hown hX hbl hbA h1 E hM hS hc hs hl kc
  | 10, _, h =>
    refine lv_tableIn (off := 490) (tgt := 530) hx hb dL_law_40 (by decide) (by decide) rfl (by decide) ?_
    exact w_case_10 h hx hb hml hown hX hbl hbA h1 E hM hS hc hs hl kc
  | 11, _, h =>
    refine lv_tableIn (off := 515) (tgt := 555) hx hb dL_law_40 (by decide) (by decide) rfl (by decide) ?_
    exact w_case_11 h hx hb hml hown hX hbl hbA h1 E hM hS hc hs hl kc
  | 12, _, h =>
    refine lv_tableIn (off := 571) (tgt := 611) hx hb dL_law_40 (by decide) (by decide) rfl (by decide) ?_
    exact w_case_12 h hx hb hml hown hX hbl hbA h1 h2 E hM hS hc hs hl kc
  | 13, _, h =>
    refine lv_tableIn (off := 639) (tgt := 679) hx hb dL_law_40 (by decide) (by decide) rfl (by decide) ?_
    exact w_case_13 h hx hb hml hown hX hbl hbA h1 E hM hS hc hs hl kc
  | 14, _, h =>
    refine lv_tableIn (off := 695) (tgt := 735) hx hb dL_law_40 (by decide) (by decide) rfl (by decide) ?_
    exact w_case_14 h hx hb hml hown hX hbl hbA h1 h2 E hM hS hc hs hl kc
  | 15, _, h =>
    refine lv_tableIn (off := 763) (tgt := 803) hx hb dL_law_40 (by decide) (by decide) rfl (by decide) ?_
    exact w_case_15 h hx hb hml hown hX hbl hbA h1 h2 h3 E hM hS hc hs hl kc
  | 16, _, h =>
    refine lv_tableIn (off := 843) (tgt := 883) hx hb dL_law_40 (by decide) (by decide) rfl (by decide) ?_
    exact w_case_16 h hx hb hml hown hX hbl hbA h1 h2 E hM hS hc hs hl kc
  | 17, _, h =>
    refine lv_tableIn (off := 911) (tgt := 951) hx hb dL_law_40 (by decide) (by decide) rfl (by decide) ?_
    exact w_case_17 h hx hb hml hown hX hbl hbA h1 E hM hS hc hs hl kc
  | 18, _, h =>
    refine lv_tableIn (off := 967) (tgt := 1007) hx hb dL_law_40 (by decide) (by decide) rfl (by decide) ?_
    exact w_case_18 h hx hb hml hown hX hbl hbA h1 E hM hS hc hs hl kc
  | 19, _, h =>
    refine lv_tableIn (off := 1023) (tgt := 1063) hx hb dL_law_40 (by decide) (by decide) rfl (by decide) ?_
    exact w_case_19 h hx hb hml hown hX hbl hbA h1 E hM hS hc hs hl kc
  | 20, _, h =>
    refine lv_tableIn (off := 1079) (tgt := 1119) hx hb dL_law_40 (by decide) (by decide) rfl (by decide) ?_
    exact w_case_20 h hx hb hml hown hX hbl hbA h1 E hM hS hc hs hl kc
  | 21, _, h =>
    refine lv_tableIn (off := 1135) (tgt := 1175) hx hb dL_law_40 (by decide) (by decide) rfl (by decide) ?_
    exact w_case_21 h hx hb hml hown hX hbl hbA h1 h2 E hM hS hc hs hl kc
  | 22, _, h =>
    refine lv_tableIn (off := 1202) (tgt := 1242) hx hb dL_law_40 (by decide) (by decide) rfl (by decide) ?_
    exact w_case_22 h hx hb hml hown hX hbl hbA h1 E hM hS hc hs hl kc
  | 23, _, h =>
    refine lv_tableIn (off := 1258) (tgt := 1298) hx hb dL_law_40 (by decide) (by decide) rfl (by decide) ?_
    exact w_case_23 h hx hb hml hown hX hbl hbA h1 E hM hS hc hs hl kc
  | 24, _, h =>
    refine lv_tableIn (off := 1314) (tgt := 1354) hx hb dL_law_40 (by decide) (by decide) rfl (by decide) ?_
    exact w_case_24 h hx hb hml hown hX hbl hbA h1 E hM hS hc hs hl kc
  | 25, _, h =>
    refine lv_tableIn (off := 1370) (tgt := 1410) hx hb dL_law_40 (by decide) (by decide) rfl (by decide) ?_
    exact w_case_25 h hx hb hml hown hX hbl hbA h1 E hM hS hc hs hl kc
  | 26, _, h =>
    refine lv_tableIn (off := 1426) (tgt := 1466) hx hb dL_law_40 (by decide) (by decide) rfl (by decide) ?_
    exact w_case_26 h hx hb hml hown hX hbl hbA  E hM hS hc hs hl kc
  | 27, _, h =>
    refine lv_tableIn (off := 1439) (tgt := 1479) hx hb dL_law_40 (by decide) (by decide) rfl (by decide) ?_
    exact w_case_27 h hx hb hml hown hX hbl hbA h1 h2 E hM hS hc hs hl kc
  | 28, _, h =>
    refine lv_tableIn (off := 1507) (tgt := 1547) hx hb dL_law_40 (by decide) (by decide) rfl (by decide) ?_
    exact w_case_28 h hx hb hml hown hX hbl hbA h1 h2 E hM hS hc hs hl kc
  | 29, _, h =>
    refine lv_tableIn (off := 1575) (tgt := 1615) hx hb dL_law_40 (by decide) (by decide) rfl (by decide) ?_
    exact w_case_29 h hx hb hml hown hX hbl hbA h1 h2 E hM hS hc hs hl kc
  | 30, _, h =>
    refine lv_tableIn (off := 1643) (tgt := 1683) hx hb dL_law_40 (by decide) (by decide) rfl (by decide) ?_
    exact w_case_30 h hx hb hml hown hX hbl hbA  E hM hS hc hs hl kc
  | 31, _, h =>
    refine lv_tableIn (off := 1656) (tgt := 1696) hx hb dL_law_40 (by decide) (by decide) rfl (by decide) ?_
    exact w_case_31 h hx hb hml hown hX hbl hbA  E hM hS hc hs hl kc
  | 32, _, h =>
    refine lv_tableIn (off := 1669) (tgt := 1709) hx hb dL_law_40 (by decide) (by decide) rfl (by decide) ?_
    exact w_case_32 h hx hb hml hown hX hbl hbA  E hM hS hc hs hl kc
  | 33, _, h =>
    refine lv_tableIn (off := 1682) (tgt := 1722) hx hb dL_law_40 (by decide) (by decide) rfl (by decide) ?_
    exact w_case_33 h hx hb hml hown hX hbl hbA h1 h2 E hM hS hc hs hl kc
  | 34, _, h =>
    refine lv_tableIn (off := 1750) (tgt := 1790) hx hb dL_law_40 (by decide) (by decide) rfl (by decide) ?_
    exact w_case_34 h hx hb hml hown hX hbl hbA h1 E hM hS hc hs hl kc
  | 35, _, h =>
    refine lv_tableIn (off := 1806) (tgt := 1846) hx hb dL_law_40 (by decide) (by decide) rfl (by decide) ?_
    exact w_case_35 h hx hb hml hown hX hbl hbA h1 E hM hS hc hs hl kc
  | 36, _, h =>
    refine lv_tableIn (off := 1862) (tgt := 1902) hx hb dL_law_40 (by decide) (by decide) rfl (by decide) ?_
    exact w_case_36 h hx hb hml hown hX hbl hbA h1 E hM hS hc hs hl kc
  | 37, _, h =>
    refine lv_tableIn (off := 1918) (tgt := 1958) hx hb dL_law_40 (by decide) (by decide) rfl (by decide) ?_
    exact w_case_37 h hx hb hml hown hX hbl hbA  E hM hS hc hs hl kc
  | 38, _, h =>
    refine lv_tableIn (off := 1931) (tgt := 1971) hx hb dL_law_40 (by decide) (by decide) rfl (by decide) ?_
    exact w_case_38 h hx hb hml hown hX hbl hbA  E hM hS hc hs hl kc
  | 39, _, h =>
    refine lv_tableIn (off := 1944) (tgt := 1984) hx hb dL_law_40 (by decide) (by decide) rfl (by decide) ?_
    exact w_case_39 h hx hb hml hown hX hbl hbA  E hM hS hc hs hl kc
  | 40, _, h =>
    refine lv_tableIn (off := 1957) (tgt := 1997) hx hb dL_law_40 (by decide) (by decide) rfl (by decide) ?_
    exact w_case_40 h hx hb hml hown hX hbl hbA h1 E hM hS hc hs hl kc
  | 41, _, h =>
    refine lv_tableIn (off := 2013) (tgt := 2053) hx hb dL_law_40 (by decide) (by decide) rfl (by decide) ?_
    exact w_case_41 h hx hb hml hown hX hbl hbA h1 h2 E hM hS hc hs hl kc
  | 42, _, h =>
    refine lv_tableIn (off := 2081) (tgt := 2121) hx hb dL_law_40 (by decide) (by decide) rfl (by decide) ?_
    exact w_case_42 h hx hb hml hown hX hbl hbA h1 E hM hS hc hs hl kc
  | 43, _, h =>
    refine lv_tableIn (off := 2136) (tgt := 2176) hx hb dL_law_40 (by decide) (by decide) rfl (by decide) ?_
    exact w_case_43 h hx hb hml hown hX hbl hbA  E hM hS hc hs hl kc
  | 44, _, h =>
    refine lv_tableIn (off := 2149) (tgt := 2189) hx hb dL_law_40 (by decide) (by decide) rfl (by decide) ?_
    exact w_case_44 h hx hb hml hown hX hbl hbA  E hM hS hc hs hl kc
  | 45, _, h =>
    refine lv_tableIn (off := 2162) (tgt := 2202) hx hb dL_law_40 (by decide) (by decide) rfl (by decide) ?_
    exact w_case_45 h hx hb hml hown hX hbl hbA h1 E hM hS hc hs hl kc
  | 46, _, h =>
    refine lv_tableIn (off := 2217) (tgt := 2257) hx hb dL_law_40 (by decide) (by decide) rfl (by decide) ?_
    exact w_case_46 h hx hb hml hown hX hbl hbA h1 E hM hS hc hs hl kc
  | 47, _, h =>
    refine lv_tableIn (off := 2272) (tgt := 2312) hx hb dL_law_40 (by decide) (by decide) rfl (by decide) ?_
    exact w_case_47 h hx hb hml hown hX hbl hbA  E hM hS hc hs hl kc
  | 48, _, h =>
    refine lv_tableIn (off := 2285) (tgt := 2325) hx hb dL_law_40 (by decide) (by decide) rfl (by decide) ?_
    exact w_case_48 h hx hb hml hown hX hbl hbA  E hM hS hc hs hl kc
  | 49, _, h =>
    refine lv_tableIn (off := 2298) (tgt := 2338) hx hb dL_law_40 (by decide) (by decide) rfl (by decide) ?_
    exact w_case_49 h hx hb hml hown hX hbl hbA  E hM hS hc hs hl kc
  | 50, _, h =>
    refine lv_tableIn (off := 2312) (tgt := 2352) hx hb dL_law_40 (by decide) (by decide) rfl (by decide) ?_
    exact w_case_50 h hx hb hml hown hX hbl hbA  E hM hS hc hs hl kc
  | 51, _, h =>
    refine lv_tableIn (off := 2325) (tgt := 2365) hx hb dL_law_40 (by decide) (by decide) rfl (by decide) ?_
    exact w_case_51 h hx hb hml hown hX hbl hbA  E hM hS hc hs hl kc
  | 52, _, h =>
    refine lv_tableIn (off := 2338) (tgt := 2378) hx hb dL_law_40 (by decide) (by decide) rfl (by decide) ?_
    exact w_case_52 h hx hb hml hown hX hbl hbA h1 h2 E hM hS hc hs hl kc
  | 53, _, h =>
    refine lv_tableIn (off := 2375) (tgt := 2415) hx hb dL_law_40 (by decide) (by decide) rfl (by decide) ?_
    exact w_case_53 h hx hb hml hown hX hbl hbA h1 E hM hS hc hs hl kc
  | 54, _, h =>
    refine lv_tableIn (off := 2400) (tgt := 2440) hx hb dL_law_40 (by decide) (by decide) rfl (by decide) ?_
    exact w_case_54 h hx hb hml hown hX hbl hbA h1 h2 h3 h4 E hM hS hc hs hl kc
  | 55, _, h =>
    refine lv_tableIn (off := 2461) (tgt := 2501) hx hb dL_law_40 (by decide) (by decide) rfl (by decide) ?_
    exact w_case_55 h hx hb hml hown hX hbl hbA h1 h2 h3 h4 h5 E hM hS hc hs hl kc
  | 56, _, h =>
    refine lv_tableIn (off := 2534) (tgt := 2574) hx hb dL_law_40 (by decide) (by decide) rfl (by decide) ?_
    exact w_case_56 h hx hb hml hown hX hbl hbA h1 h2 E hM hS hc hs hl kc
  | 57, _, h =>
    refine lv_tableIn (off := 2587) (tgt := 2627) hx hb dL_law_40 (by decide) (by decide) rfl (by decide) ?_
    exact w_case_57 h hx hb hml hown hX hbl hbA h1 h2 E hM hS hc hs hl kc
  | 58, _, h =>
    refine lv_tableIn (off := 2624) (tgt := 2664) hx hb dL_law_40 (by decide) (by decide) rfl (by decide) ?_
    exact w_case_58 h hx hb hml hown hX hbl hbA h1 E hM hS hc hs hl kc
  | 59, _, h =>
    refine lv_tableIn (off := 2649) (tgt := 2689) hx hb dL_law_40 (by decide) (by decide) rfl (by decide) ?_
    exact w_case_59 h hx hb hml hown hX hbl hbA h1 E hM hS hc hs hl kc
  | 60, _, h =>
    refine lv_tableIn (off := 2674) (tgt := 2714) hx hb dL_law_40 (by decide) (by decide) rfl (by decide) ?_
    exact w_case_60 h hx hb hml hown hX hbl hbA h1 h2 E hM hS hc hs hl kc
  | 61, _, h =>
    refine lv_tableIn (off := 2711) (tgt := 2751) hx hb dL_law_40 (by decide) (by decide) rfl (by decide) ?_
    exact w_case_61 h hx hb hml hown hX hbl hbA  E hM hS hc hs hl kc
  | 62, _, h =>
    refine lv_tableOut (tgt := 2764) hx hb dL_law_40 (by decide) (by decide) ?_
    refine W.widen (k := cells + 2) (n := slots + 12) (by omega) (by omega) ?_
    exact kc E (show gW gFull D cy _ base _ _ from (Option.some.inj h) ▸ hM) hS hl
  | 63, _, h =>
    refine lv_tableOut (tgt := 2764) hx hb dL_law_40 (by decide) (by decide) ?_
    refine W.widen (k := cells + 2) (n := slots + 12) (by omega) (by omega) ?_
    exact kc E (show gW gFull D cy _ base _ _ from (Option.some.inj h) ▸ hM) hS hl
  | k + 64, hk, _ => exact absurd hk (by omega)
theorem scr_in {L i j : Nat} (hL : L ≤ 3072) (hi : i + j < L) : vp_in (Int32.ofNat i + Int32.ofNat j) L ∧ (Int32.ofNat i + Int32.ofNat j).toNatClampNeg = i + j := by
  have e : Int32.ofNat i + Int32.ofNat j = Int32.ofNat (i + j) := by rw [Int32.ofNat_add]
  rw [e]
  have e2 : (Int32.ofNat (i + j)).toInt = ((i + j : Nat) : Int) := Int32.toInt_ofNat_of_lt (by omega)
  have e3 : (Int32.ofNat (i + j)).toNatClampNeg = i + j := by
    show (Int32.ofNat (i + j)).toInt.toNat = i + j
    rw [e2]; exact Int.toNat_natCast _
  refine ⟨?_, e3⟩
  unfold vp_in
  rw [e3]
  rintro (h | h)
  · rw [Int32.lt_iff_toInt_lt, e2] at h
    have : (0 : Int32).toInt = 0 := by decide
    omega
  · omega
set_option maxHeartbeats 4000000 in
set_option maxRecDepth 100000 in
/-- the law's loop: every operation keeps Rel and answers alike -/
theorem law_loop {Rel : gM → Prop} (sim : ∀ μ, Rel μ → ∀ (k : Nat) (s1 s2 s3 s4 s5 : Int32), ∃ μ2, f_case k s1 s2 s3 s4 s5 μ = some μ2 ∧ Rel μ2) (hL : L ≤ 3072) (hx : p.tables.exec = Jvm.exec) (hb : c.code = cL_law) (hml : c.maxLocals = 8) (hown : s.vm.findClass RL = some m.cls) (hX : va_X b L xs s s.heap) (hbl : b < s.heap.size) (hbA : ¬ gA base b)
    (kx : ∀ {H : Heap} {locs : List Loc} {ls : Array Slot} {cells slots : Nat}, cells ≤ 1103 → slots ≤ 20535 → va_S (gA base) s.heap H locs → W p l e room_1 s m args below meth c H locs cells slots Q (F0 m 2770 ls [])) :
    ∀ (n i : Nat) {μ : gM} {ad : Nat → Nat} {H : Heap} {locs : List Loc} {cells slots : Nat} {ls : Array Slot}, Rel μ → i ≤ L → L < i + 6 * n → 3 * cells + (L - i) ≤ 3309 → slots + 2 * (L - i) ≤ 20535 → gEnv l D cy ad base s → gW gFull D cy ad base μ H → va_S (gA base) s.heap H locs → lv_has ls 8 [(0, .ref b), (1, .ref (ad 0)), (2, .ref (ad 60)), (3, .ref (ad 77)), (4, .int (Int32.ofNat i))] → W p l e room_1 s m args below meth c H locs cells slots Q (F0 m 23 ls []) := by
  intro n
  induction n with
  | zero => intro i μ ad H locs cells slots ls _ h1 h2; exact absurd h2 (by omega)
  | succ n ih =>
    intro i μ ad H locs cells slots ls hR hi hin hc hs E hM hS hl
    refine lv_iload hx hb dL_law_23 (lv_at hl 4 rfl) ?_
    refine lv_aload_n hx hb dL_law_25 rfl (lv_at hl 0 rfl) ?_
    refine va_slen hx hb hX hbl hbA hS dL_law_26 ?_
    refine lv_bipush (v := (6 : Int32)) hx hb dL_law_27 (by decide) ?_
    refine lv_isub hx hb dL_law_29 ?_
    have eL : (Int32.ofNat L).toInt = (L : Int) := Int32.toInt_ofNat_of_lt (by omega)
    have eI : (Int32.ofNat i).toInt = (i : Int) := Int32.toInt_ofNat_of_lt (by omega)
    have e6 : (Int32.ofNat L - 6).toInt = (L : Int) - 6 := by
      have h9 : (6 : Int32).toInt = 6 := by decide
      rw [Int32.toInt_sub, eL, h9]
      exact Int.bmod_eq_of_le (by omega) (by omega)
    refine lv_icmp_gt (tgt := 2770) hx hb dL_law_30 (by decide) (fun c1 => ?_) (fun c1 => ?_)
    · exact kx (by omega) (by omega) hS
    · have hlt : i + 6 ≤ L := by
        rw [Int32.lt_iff_toInt_lt, eI, e6] at c1
        omega
      refine lv_aload_n hx hb dL_law_33 rfl (lv_at hl 0 rfl) ?_
      refine lv_iload hx hb dL_law_34 (lv_at hl 4 rfl) ?_
      have e0 := scr_in (L := L) (i := i) (j := 0) hL (by omega)
      have e00 : Int32.ofNat i + Int32.ofNat 0 = Int32.ofNat i := by rw [show Int32.ofNat 0 = 0 from rfl, Int32.add_zero]
      rw [e00] at e0
      refine va_sld hx hb hX hbl hbA hS e0.1 dL_law_36 ?_
      refine lv_bipush (v := (63 : Int32)) hx hb dL_law_37 (by decide) ?_
      refine lv_iand hx hb dL_law_39 ?_
      obtain ⟨k, hk, ek⟩ := op63 (xs (Int32.ofNat i).toNatClampNeg)
      rw [ek]
      obtain ⟨μ2, h2, hR2⟩ := sim μ hR k (xs (i + 1)) (xs (i + 2)) (xs (i + 3)) (xs (i + 4)) (xs (i + 5))
      have sc : ∀ j, j < 6 → scrAt L xs (Int32.ofNat i) (Int32.ofNat j) (xs (i + j)) := fun j hj => by
        have e := scr_in (L := L) (i := i) (j := j) hL (by omega)
        exact ⟨e.1, by rw [e.2]⟩
      refine w_disp hk h2 hx hb hml hown hX hbl hbA (sc 1 (by decide)) (sc 2 (by decide)) (sc 3 (by decide)) (sc 4 (by decide)) (sc 5 (by decide)) E hM hS (show cells + 2 ≤ 1103 by omega) (show slots + 12 ≤ 20535 by omega) hl (fun {ad} {H} {locs} {ls} E hM hS hl => ?_)
      refine lv_iinc (v := Int32.ofNat (i + 6)) (lv' := [(4, .int (Int32.ofNat (i + 6))), (0, .ref b), (1, .ref (ad 0)), (2, .ref (ad 60)), (3, .ref (ad 77))]) hx hb dL_law_2764 hl (k := 4) rfl (by rw [Int32.ofNat_add]; rfl) (by decide) rfl (fun ls hl => ?_)
      refine lv_goto (tgt := 23) hx hb dL_law_2767 (by decide) ?_
      exact ih (i + 6) hR2 (by omega) (by omega) (by omega) (by omega) E hM hS (lv_sub hl [1, 2, 3, 4, 0] rfl)
end LAWL

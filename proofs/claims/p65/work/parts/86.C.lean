/-! the law's walk along a loop, and all loops -/
section LPT
variable {v : Nat → Nat → Int32} {ν μ : gM}
theorem l_154 (Co : CO v μ) (M : LM v ν) {k : Nat} (hk : k < nN v) (hp : lpB (nA v) (tbr v (nA v)) k) (x4 : Int32) : ∃ μ', gloop (fun (t : Int32 × Int32 × Int32 × Int32 × Int32 × Int32 × gM) => b_L_areLoops_154 (tbr v (nA v)) (nI (lc (nA v) (tbr v (nA v)) k)) x4 (nI k) t.1 t.2.1 t.2.2.1 t.2.2.2.1 t.2.2.2.2.1 t.2.2.2.2.2.1 ν t.2.2.2.2.2.2) 10 (nI (fs v k), (0 : Int32), (0 : Int32), (0 : Int32), (0 : Int32), enc v (k, fs v k), μ) = some (.inl (nI (fs v k), wrs v (lway v (nA v) k), nI (wln v (lway v (nA v) k)), μ')) ∧ Fr μ μ' := by
  have C := Co.1
  have hb := M.b
  obtain ⟨hi, hX⟩ := lpk_lc hk hp
  have eL : XL v (nA v) (lc (nA v) (tbr v (nA v)) k) = lway v (nA v) k := by unfold XL; rw [hX]
  have hle := lway_le C hk hp.1
  have hch := lway_ch C hk hp.1
  obtain ⟨hnd, htl⟩ := lway_nd C hk hp
  obtain ⟨L', eL'⟩ : ∃ L', lway v (nA v) k = (k, fs v k) :: L' := ⟨_, rfl⟩
  have hm : ∀ x, x ∈ lway v (nA v) k → x.1 < nN v := fun x hx => (lway_m C hk hp.1 hx).1
  generalize lway v (nA v) k = L at *
  have h : ∃ r, gloop (fun (t : Int32 × Int32 × Int32 × Int32 × Int32 × Int32 × gM) => b_L_areLoops_154 (tbr v (nA v)) (nI (lc (nA v) (tbr v (nA v)) k)) x4 (nI k) t.1 t.2.1 t.2.2.1 t.2.2.2.1 t.2.2.2.2.1 t.2.2.2.2.2.1 ν t.2.2.2.2.2.2) 10 (nI (fs v k), (0 : Int32), (0 : Int32), (0 : Int32), (0 : Int32), enc v (k, fs v k), μ) = some r ∧ ∃ μ', r = .inl (nI (fs v k), wrs v L, nI (wln v L), μ') ∧ Fr μ μ' := by
    refine gloop_relN (fun n t => ∃ pre rest h μ', L = pre ++ rest ∧ pre.length = n ∧ h < nP v ∧ wch v h rest (fs v k) ∧ t = (nI h, wrs v pre, nI (wln v pre), wset pre, nI pre.length, hc v rest.head?, μ') ∧ Fr μ μ') _ (nP v) 10 (fun n t hn hR => ?_) (by omega) ⟨[], L, fs v k, μ, rfl, rfl, (C.g k hk).1, hch, by rw [eL']; rfl, Fr.rf μ⟩
    obtain ⟨pre, rest, h, μ1, e1, e2, e3, e4, rfl, F⟩ := hR
    show (∃ t, b_L_areLoops_154 (tbr v (nA v)) (nI (lc (nA v) (tbr v (nA v)) k)) x4 (nI k) (nI h) (wrs v pre) (nI (wln v pre)) (wset pre) (nI pre.length) (hc v rest.head?) ν μ1 = _ ∧ _) ∨ ∃ r, b_L_areLoops_154 (tbr v (nA v)) (nI (lc (nA v) (tbr v (nA v)) k)) x4 (nI k) (nI h) (wrs v pre) (nI (wln v pre)) (wset pre) (nI pre.length) (hc v rest.head?) ν μ1 = _ ∧ _
    cases rest with
    | nil =>
      right
      rw [List.append_nil] at e1
      have e4 : h = fs v k := e4
      refine ⟨.inl (nI h, wrs v pre, nI (wln v pre), μ1), ?_, μ1, by rw [e1, e4], F⟩
      exact if_pos (show (-1 : Int32) < 0 by decide)
    | cons x rest =>
      left
      obtain ⟨c1, c2, c3⟩ := e4
      have hlen : L.length = pre.length + (rest.length + 1) := by rw [e1, List.length_append, List.length_cons]
      have hx := hm x (by rw [e1]; exact List.mem_append.mpr (Or.inr List.mem_cons_self))
      obtain ⟨μ2, s1, s2⟩ := l_step (Co.fr F) M hi (pre := pre) (rest := rest) (x := x) (h := h) (x4 := x4) (x5 := nI k) (eL.trans e1) (by omega) hx e3 c1 c2 (fun q => by
        rw [q, eL', List.nil_append] at e1
        rw [← (List.cons.inj e1).1]
        exact (if_pos rfl : enc v (k, fs v k) = nI k).symm) (fun q => by
        obtain ⟨y, pre', rfl⟩ := List.exists_cons_of_ne_nil q
        refine ⟨htl x (by rw [e1]; exact List.mem_append.mpr (Or.inr List.mem_cons_self)), ?_⟩
        refine Bool.eq_false_iff.mpr (fun w => ?_)
        obtain ⟨z, z1, z2⟩ := (wset_b (by omega) (fun z hz => by have := hm z (by rw [e1]; exact List.mem_append.mpr (Or.inl hz)); omega)).mp w
        rw [e1] at hnd
        exact (List.pairwise_append.mp hnd).2.2 z z1 x List.mem_cons_self z2)
      refine ⟨_, s1, ⟨pre ++ [x], rest, oO v x.1 h, μ2, by rw [e1, List.append_assoc]; rfl, by rw [List.length_append, List.length_singleton]; omega, brO_lt (C.g x.1 hx), c3, ?_, F.tr s2⟩, by omega⟩
      rw [List.length_append, List.length_singleton]
  obtain ⟨r, hr, μ', rfl, F⟩ := h
  exact ⟨μ', hr, F⟩
theorem l_88 (Co : CO v μ) (M : LM v ν) {k : Nat} (hk : k < nN v) : ∃ μ', b_L_areLoops_88 (tbr v (nA v)) (nI (lc (nA v) (tbr v (nA v)) k)) (bsf v (nA v) (lc (nA v) (tbr v (nA v)) k)) (nI k) ν μ = some (.inl (nI (lc (nA v) (tbr v (nA v)) (k + 1)), bsf v (nA v) (lc (nA v) (tbr v (nA v)) (k + 1)), nI (k + 1), μ')) ∧ Fr μ μ' := by
  have C := Co.1
  have hb := M.b
  have hg := C.g k hk
  have es : lc (nA v) (tbr v (nA v)) (k + 1) = if lpB (nA v) (tbr v (nA v)) k then lc (nA v) (tbr v (nA v)) k + 1 else lc (nA v) (tbr v (nA v)) k := rfl
  rw [es]
  unfold b_L_areLoops_88
  rw [M.N, if_neg (nI_ge hk (by omega)), M.ll]
  simp (disch := omega) only [gck, nI_clamp]
  rw [nI_1]
  by_cases c : (nA v).testBit k = true
  · rw [if_neg (fun q => (M.a0 hk).mp q c), b_test (by omega)]
    by_cases d : bt (tbr v (nA v)) k = true
    · rw [if_pos d, if_pos rfl, if_neg (fun w : lpB (nA v) (tbr v (nA v)) k => by have := w.2; rw [d] at this; cases this)]
      exact ⟨μ, rfl, Fr.rf μ⟩
    · have hp : lpB (nA v) (tbr v (nA v)) k := ⟨c, Bool.eq_false_iff.mpr d⟩
      rw [if_neg d, if_neg (show ¬ (0 : Int32) = 1 by decide), if_pos hp]
      obtain ⟨hi, hX⟩ := lpk_lc hk hp
      have eL : XL v (nA v) (lc (nA v) (tbr v (nA v)) k) = lway v (nA v) k := by unfold XL; rw [hX]
      have hn := nlp_le (A := nA v) C
      obtain ⟨μ1, q1, F1⟩ := q_loopLine Co hi (j := 0) (by decide)
      have Co1 := Co.fr F1
      obtain ⟨μ2, q2, F2⟩ := l_154 Co1 M hk hp (bsf v (nA v) (lc (nA v) (tbr v (nA v)) k))
      have Co2 := Co1.fr F2
      obtain ⟨μ3, q3, F3⟩ := q_allowed Co2 hi
      have Co3 := Co2.fr F3
      obtain ⟨μ4, q4, F4⟩ := q_misclosure Co3 hi
      have Co4 := Co3.fr F4
      obtain ⟨μ5, q5, F5⟩ := q_loopLength Co4 hi
      rw [show (XL v (nA v) (lc (nA v) (tbr v (nA v)) k))[0]? = some (k, fs v k) by rw [eL]; rfl] at q1
      rw [eL] at q3 q4 q5
      rw [show (0 : Int32) = nI 0 from rfl, q1, Option.bind_some, M.f C hk]
      rw [show gloop (fun (t : Int32 × Int32 × Int32 × Int32 × Int32 × Int32 × gM) => b_L_areLoops_154 (tbr v (nA v)) (nI (lc (nA v) (tbr v (nA v)) k)) (bsf v (nA v) (lc (nA v) (tbr v (nA v)) k)) (nI k) t.1 t.2.1 t.2.2.1 t.2.2.2.1 t.2.2.2.2.1 t.2.2.2.2.2.1 ν t.2.2.2.2.2.2) 10 (nI (fs v k), nI 0, nI 0, nI 0, nI 0, hc v (some (k, fs v k)), μ1) = _ from q2, Option.bind_some]
      show ∃ μ', Option.bind (f_X7_allowed (nI (lc (nA v) (tbr v (nA v)) k)) μ2) _ = _ ∧ _
      have hmem : ∀ x, x ∈ lway v (nA v) k → x.1 < nN v := fun x hx => (lway_m C hk hp.1 hx).1
      have hlen := lway_le C hk hp.1
      obtain ⟨r, r1, r2, r3, r4, r5⟩ := lmt_c C hmem (by omega)
      obtain ⟨b1, b2⟩ := lm_b C hmem (by omega)
      have hw := wrs_B C hmem (by omega)
      have hbs : bsf v (nA v) (lc (nA v) (tbr v (nA v)) k + 1) = if 0 < ((wrs v (lway v (nA v) k)).toInt.natAbs : Int) - (nI r).toInt then bsf v (nA v) (lc (nA v) (tbr v (nA v)) k) ||| ((1 : Int32) <<< (nI (lc (nA v) (tbr v (nA v)) k) &&& 31)) else bsf v (nA v) (lc (nA v) (tbr v (nA v)) k) := by
        show (if 0 < wE v (nA v) (lc (nA v) (tbr v (nA v)) k) then _ else _) = _
        unfold wE
        rw [eL, r2]
      rw [hbs]
      generalize lway v (nA v) k = L at *
      rw [r2] at q3
      have rr : r * r < 2 ^ 40 := by
        have := Nat.mul_le_mul (show r ≤ 2 ^ 19 by omega) (show r ≤ 2 ^ 19 by omega)
        omega
      have rr1 : (r + 1) * (r + 1) < 2 ^ 63 := by
        have := Nat.mul_le_mul (show r + 1 ≤ 2 ^ 20 by omega) (show r + 1 ≤ 2 ^ 20 by omega)
        omega
      rw [q3, Option.bind_some, if_pos rfl, q4, Option.bind_some, if_pos rfl, q5, Option.bind_some, if_pos rfl, M.t, X_e C L b1, nI_l (by omega), lN_mul]
      rw [if_neg (fun w => by have := (pk_lLT (by omega) (by omega)).mp w; omega), lN_1, lN_mul, if_pos ((pk_lLT (by omega) rr1).mpr r5)]
      have ei : (iabs (wrs v L)).toInt = ((wrs v L).toInt.natAbs : Int) := iabs_toInt (by omega)
      have or0 : ∀ x : Int32, x ||| nI 0 = x := fun x => b_ext (fun i hi => by rw [b_or, show nI 0 = (0 : Int32) from rfl, b_0, Bool.or_false])
      have er : (nI r).toInt = (r : Int) := nI_toInt (by omega)
      have el : (lN r).toInt = (r : Int) := lN_toInt (by omega)
      have FF : Fr μ μ5 := F1.tr (F2.tr (F3.tr (F4.tr F5)))
      rw [nI_1]
      by_cases f : 0 < ((wrs v L).toInt.natAbs : Int) - (nI r).toInt
      · rw [if_neg (fun w => by rw [Int64.le_iff_toInt_le, Int32.toInt_toInt64, ei, el] at w; rw [er] at f; omega), if_pos f]
        exact ⟨μ5, rfl, FF⟩
      · rw [if_pos (by rw [Int64.le_iff_toInt_le, Int32.toInt_toInt64, ei, el]; rw [er] at f; omega), if_neg f, or0]
        exact ⟨μ5, rfl, FF⟩
  · rw [if_pos ((M.a0 hk).mpr c), if_neg (fun w => c w.1)]
    exact ⟨μ, rfl, Fr.rf μ⟩
theorem l_loops (Co : CO v μ) (M : LM v ν) : ∃ μ', f_L_areLoops ν μ = some (true, μ') ∧ Fr μ μ' := by
  have C := Co.1
  have hb := M.b
  have bc : ∀ μ, f_J6_bitCount_0f7a4 (tbr v (nA v)) μ = some (nI (pcn (tbr v (nA v)) 20)) := fun μ => bitc μ (fun i hi h20 => Bool.eq_false_iff.mpr (fun w => by have := (tl_act C hi w).1; omega))
  have ht := tree_n (A := nA v) C
  have hn := nlp_t (A := nA v) C
  obtain ⟨μ1, q1, F1⟩ := q_treeLines Co
  have Co1 := Co.fr F1
  have h12 : gloop (fun t => b_L_areLoops_12 (tbr v (nA v)) t.1 t.2 ν μ1) 12 ((0 : Int32), (0 : Int32)) = some (nI (lc (nA v) 0 (nN v))) := by
    refine gloop_run (fun i => (nI (lc (nA v) 0 i), nI i)) (nN v) (fun k hk => ?_) ?_ 12 (by omega)
    · show b_L_areLoops_12 (tbr v (nA v)) (nI (lc (nA v) 0 k)) (nI k) ν μ1 = some (.inl (nI (if lpB (nA v) 0 k then lc (nA v) 0 k + 1 else lc (nA v) 0 k), nI (k + 1)))
      unfold b_L_areLoops_12
      rw [M.N, if_neg (nI_ge hk (by omega)), M.ll]
      simp (disch := omega) only [gck, nI_clamp]
      rw [nI_1, nI_1, Int32.add_zero]
      by_cases c : (nA v).testBit k = true
      · rw [if_neg (fun q => (M.a0 hk).mp q c), if_pos (show lpB (nA v) 0 k from ⟨c, b_0 k⟩)]
      · rw [if_pos ((M.a0 hk).mpr c), if_neg (fun w => c w.1)]
    · show b_L_areLoops_12 (tbr v (nA v)) _ (nI (nN v)) ν μ1 = _
      unfold b_L_areLoops_12
      rw [M.N, if_pos (nI_le (Nat.le_refl _) (by omega))]
  obtain ⟨μ2, q2, F2⟩ := q_parts Co1
  have Co2 := Co1.fr F2
  obtain ⟨μ3, q3, F3⟩ := q_loopCount Co2
  have Co3 := Co2.fr F3
  have h88 : ∃ r, gloop (fun (t : Int32 × Int32 × Int32 × gM) => b_L_areLoops_88 (tbr v (nA v)) t.1 t.2.1 t.2.2.1 ν t.2.2.2) 12 ((0 : Int32), (0 : Int32), (0 : Int32), μ3) = some r ∧ ∃ μ', r = .inl (nI (nlp v (nA v)), bsf v (nA v) (nlp v (nA v)), μ') ∧ Fr μ3 μ' := by
    refine gloop_relN (fun i t => ∃ μ', t = (nI (lc (nA v) (tbr v (nA v)) i), bsf v (nA v) (lc (nA v) (tbr v (nA v)) i), nI i, μ') ∧ Fr μ3 μ') _ (nN v) 12 (fun i t hi hR => ?_) (by omega) ⟨μ3, rfl, Fr.rf μ3⟩
    obtain ⟨μ', rfl, F⟩ := hR
    show (∃ t, b_L_areLoops_88 (tbr v (nA v)) _ _ (nI i) ν μ' = _ ∧ _) ∨ ∃ r, b_L_areLoops_88 (tbr v (nA v)) _ _ (nI i) ν μ' = _ ∧ _
    by_cases c : i = nN v
    · right
      rw [c]
      unfold b_L_areLoops_88
      rw [M.N, if_pos (nI_le (Nat.le_refl _) (by omega))]
      exact ⟨_, rfl, μ', rfl, F⟩
    · left
      obtain ⟨μ4, e, F4⟩ := l_88 (Co3.fr F) M (show i < nN v by omega)
      exact ⟨_, e, ⟨μ4, rfl, F.tr F4⟩, by omega⟩
  obtain ⟨r, h88, μ4, rfl, F4⟩ := h88
  have Co4 := Co3.fr F4
  obtain ⟨μ5, q5, F5⟩ := q_loopCount Co4
  have Co5 := Co4.fr F5
  obtain ⟨μ6, q6, F6⟩ := q_badLoops Co5
  refine ⟨μ6, ?_, F1.tr (F2.tr (F3.tr (F4.tr (F5.tr F6))))⟩
  unfold f_L_areLoops
  rw [q1, Option.bind_some]
  show Option.bind (gloop (fun t => b_L_areLoops_12 (tbr v (nA v)) t.1 t.2 ν μ1) 12 ((0 : Int32), (0 : Int32))) _ = _
  rw [h12, Option.bind_some, bc, Option.bind_some, q2, Option.bind_some, M.P]
  rw [if_pos (show nI (pcn (tbr v (nA v)) 20) = nI (nP v) - nI (prt (rtv v (nA v)) (nP v)) by rw [pk_sub (by omega)]; congr 1; omega)]
  rw [q3, Option.bind_some, bc, Option.bind_some, if_pos (show nI (nlp v (nA v)) = nI (lc (nA v) 0 (nN v)) - nI (pcn (tbr v (nA v)) 20) by rw [pk_sub (by omega)]; congr 1; omega)]
  rw [h88, Option.bind_some]
  show Option.bind (f_X7_loopCount μ4) _ = _
  rw [q5, Option.bind_some, if_pos rfl, q6, Option.bind_some, if_pos rfl]
end LPT

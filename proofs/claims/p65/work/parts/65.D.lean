theorem dL_mod_0 : decode cL_mod 0 = .ok (.iload_n 0, 1) := by decide +kernel
theorem dL_mod_1 : decode cL_mod 1 = .ok (.ldc 9, 2) := by decide +kernel
theorem dL_mod_3 : decode cL_mod 3 = .ok (.iand, 1) := by decide +kernel
theorem dL_mod_4 : decode cL_mod 4 = .ok (.iload_n 1, 1) := by decide +kernel
theorem dL_mod_5 : decode cL_mod 5 = .ok (.irem, 1) := by decide +kernel
theorem dL_mod_6 : decode cL_mod 6 = .ok (.ireturn, 1) := by decide +kernel
def f_L_mod (p1 : Int32) (p2 : Int32) (μ : gM) : Option (Int32) :=
  gchk (¬ p2 = 0) (some ((p1 &&& (2147483647 : Int32)) - (p1 &&& (2147483647 : Int32)) / p2 * p2))
set_option maxHeartbeats 4000000 in
set_option maxRecDepth 100000 in
theorem c_L_mod {l : Launch} {D : va_G} {cy : Nat → ClassId} {ad : Nat → Nat} {base : gBs} {p1 : Int32} {p2 : Int32} {μ : gM} {RES : Int32} (h : f_L_mod p1 p2 μ = some RES) : Met l yL_mod [.code yL_mod cL_mod 2 (some .int)] ({ frames := 0, cells := 0, slots := 0, locals := 0 } : Room) (va_Pc [.int p1, .int p2] (gB l gFull D cy ad base μ)) (gQ (some (.int RES)) gFull D cy ad base μ) 0 0 (gA base) := by
  refine Met.ofW (cc := cL_mod) (maxL := 2) (ret := (some .int)) (by decide) rfl ?_
  intro p e s m args below meth c s₁ B hml0 hv
  obtain ⟨rfl, E, hM⟩ := hv
  have F : gF p s m meth c cL_mod RL 2 (some .int) := gF_of B hml0
  obtain ⟨hx, hb, hml, hown, hlocks, hr⟩ := id F
  have hS : va_S (gA base) s.heap s.heap [] := va_S.rf
  have hl := lv_entry ([.int p1, .int p2]) (n := 2) (Nat.le_of_ble_eq_true rfl)
  rw [lg_entry_eq]
  generalize (lg_sl ([.int p1, .int p2]) ++ List.replicate (2 - (lg_sl ([.int p1, .int p2])).length) Slot.unset).toArray = ls at hl ⊢
  have hl : lv_has ls 2 [(0, .int p1), (1, .int p2)] := hl
  unfold f_L_mod at h
  refine lv_iload_n hx hb dL_mod_0 rfl (lv_at hl 0 rfl) ?_
  refine lv_ldc hx hb hown (v := (2147483647 : Int32)) (E.kw kw_546) dL_mod_1 ?_
  refine lv_iand hx hb dL_mod_3 ?_
  refine lv_iload_n hx hb dL_mod_4 rfl (lv_at hl 1 rfl) ?_
  obtain ⟨c1, h⟩ := gchk_e h
  refine lv_irem hx hb dL_mod_5 c1 ?_
  obtain rfl := Option.some.inj h
  exact g_iret hx hb hr hlocks hM hS dL_mod_6
theorem hy_L_mod : gYS yL_mod cL_mod 2 (some .int) 2 := ⟨kw_545, kw_49, kw_544, ⟨by decide +kernel, by decide +kernel⟩, by decide +kernel⟩

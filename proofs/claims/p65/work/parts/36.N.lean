theorem kz_531 : gw (.sameField "java/util/ArrayList" "java/util/AbstractList" "modCount" "I") := gw_al3 [.sameField "java/util/ArrayList" "java/util/AbstractList" "modCount" "I"] [2] rfl (by decide +kernel) _ List.mem_cons_self
theorem x_in {k N : Nat} (h : k < N) (hN : N < 2 ^ 31) : gIn (nI k) N := ⟨nI_pos' (by omega), by rw [nI_clamp (by omega)]; exact h⟩
theorem x_rf {g : Nat → Option Nat} {k v : Nat} (hk : k < 2 ^ 31) (h : g k = some v) : va_rf (g (nI k).toNatClampNeg) = .ref v := by rw [nI_clamp hk, h]; rfl
theorem x_rn {g : Nat → Option Nat} {k : Nat} (hk : k < 2 ^ 31) (h : g k = none) : va_rf (g (nI k).toNatClampNeg) = .null := by rw [nI_clamp hk, h]; rfl
